import java.util.ArrayDeque;
import java.util.ArrayList;
import java.util.Arrays;
import java.util.HashMap;
import java.util.HashSet;
import java.util.List;
import java.util.Map;
import java.util.Set;

/**
 * The document once more, written in another way and without regard to room or time: trees for THE LAW, copies of all
 * for what can be undone, searches through every case. FogArrowsFuzz holds FogArrows against it.
 */
final class PlainRiver {
    static final int NONE = -1;

    /** A FAULT on its way out of a parser. */
    static final class Fault extends RuntimeException {
        final int what;
        final int at;

        Fault(int what, int at) {
            super("fault", null, false, false);
            this.what = what;
            this.at = at;
        }
    }

    static final class Boat implements Cloneable {
        int straw, kind, reach, left, right, turned, lost;

        Boat copy() {
            Boat b = new Boat();
            b.straw = straw;
            b.kind = kind;
            b.reach = reach;
            b.left = left;
            b.right = right;
            b.turned = turned;
            b.lost = lost;
            return b;
        }

        int lean() {
            return left > right ? left - right : right - left;
        }
    }

    interface Tree {
        int of(Map<String, Integer> seen);
    }

    static final class LawLine {
        String word;
        Tree e;
        Tree b;
    }

    static final class Village {
        int straw;
        Set<Integer> says = new HashSet<>();
    }

    /** All that a night changes. */
    static final class Night {
        List<Boat> boats = new ArrayList<>();
        int[] archers = new int[16];
        int alarm, fog = 5, drums = 3, hour, arrows, fire, draws;
        List<int[]> book = new ArrayList<>();

        Night copy() {
            Night n = new Night();
            for (Boat b : boats) {
                n.boats.add(b.copy());
            }
            n.archers = archers.clone();
            n.alarm = alarm;
            n.fog = fog;
            n.drums = drums;
            n.hour = hour;
            n.arrows = arrows;
            n.fire = fire;
            n.draws = draws;
            n.book = new ArrayList<>(book);
            return n;
        }

        void line(int what, int boat, int many) {
            if (book.size() < 150) {
                book.add(new int[] {hour, what, boat, many});
            }
        }

        int draw(int m) {
            draws = 1664525 * draws + 1013904223;
            return (int) ((draws & 0xffffffffL) / 256 % m);
        }

        int had() {
            int all = arrows;
            for (Boat b : boats) {
                all += b.lost == 0 ? b.left + b.right : 0;
            }
            return all;
        }

        int lost() {
            int all = 0;
            for (Boat b : boats) {
                all += b.lost == 0 ? 0 : 1;
            }
            return all;
        }
    }

    Night night = new Night();
    List<LawLine> law = new ArrayList<>();
    List<int[]> currents = new ArrayList<>();
    List<int[]> plan = new ArrayList<>();
    Map<Integer, Village> villages = new HashMap<>();
    List<int[]> things = new ArrayList<>();
    int[] costs = new int[4];
    List<Integer> marks = new ArrayList<>();

    String tape = "";
    int faultWhat = 0;
    int faultAt = NONE;
    ArrayDeque<Night> past = new ArrayDeque<>();
    PlainRiver image;

    PlainRiver() {
        Arrays.fill(night.archers, 10);
    }

    // ---- telling

    int state(int v) {
        int was = night.draws;
        night.draws = v;
        past.clear();
        return was;
    }

    int boat(int straw, int kind, int reach) {
        if (straw < 1 || straw > 40 || kind < 0 || kind > 2 || reach < 0 || reach > 15 || night.boats.size() == 10) {
            return NONE;
        }
        Boat b = new Boat();
        b.straw = straw;
        b.kind = kind;
        b.reach = reach;
        night.boats.add(b);
        past.clear();
        return night.boats.size() - 1;
    }

    boolean set(int what, int who, int v) {
        int[] most = {9, 9, 99, 1000, 99, 999, 999};
        if (what < 0 || what > 6 || v < 0 || v > most[what]) {
            return false;
        }
        if (what == 4 && (who < 0 || who > 15) || what > 4 && !there(who)) {
            return false;
        }
        if (what == 0) night.fog = v;
        if (what == 1) night.drums = v;
        if (what == 2) night.alarm = v;
        if (what == 3) night.fire = v;
        if (what == 4) night.archers[who] = v;
        if (what == 5) night.boats.get(who).left = v;
        if (what == 6) night.boats.get(who).right = v;
        past.clear();
        return true;
    }

    boolean there(int b) {
        return b >= 0 && b < night.boats.size();
    }

    boolean afloat(int b) {
        return there(b) && night.boats.get(b).lost == 0;
    }

    void keep() {
        past.addLast(night.copy());
        if (past.size() > 6) {
            past.removeFirst();
        }
    }

    boolean turn(int b) {
        if (!afloat(b)) {
            return false;
        }
        keep();
        doTurn(night, b);
        return true;
    }

    int home(int b) {
        if (!afloat(b)) {
            return NONE;
        }
        keep();
        return doHome(night, b);
    }

    boolean move(int b, int reach) {
        if (!afloat(b) || reach < 0 || reach > 15) {
            return false;
        }
        keep();
        doMove(night, b, reach);
        return true;
    }

    static void doTurn(Night n, int b) {
        n.boats.get(b).turned ^= 1;
        n.line(1, b, 0);
    }

    static int doHome(Night n, int b) {
        Boat x = n.boats.get(b);
        int all = x.left + x.right;
        n.arrows += all;
        x.left = 0;
        x.right = 0;
        n.line(2, b, all);
        return all;
    }

    static void doMove(Night n, int b, int reach) {
        n.boats.get(b).reach = reach;
        n.line(5, b, reach);
    }

    int hours(int n) {
        if (n < 1 || n > 60 || night.hour + n > 9999) {
            return NONE;
        }
        int all = 0;
        for (int i = 0; i < n; i++) {
            keep();
            all += hour(night, true);
        }
        return all;
    }

    int hour(Night n, boolean real) {
        for (int[] line : plan) {
            if (line[0] != n.hour) {
                continue;
            }
            if (line[1] == 'd') {
                n.drums = line[3];
            } else if (n.boats.get(line[2]).lost == 0) {
                if (line[1] == 't') doTurn(n, line[2]);
                if (line[1] == 'h') doHome(n, line[2]);
                if (line[1] == 'm') doMove(n, line[2], line[3]);
            }
        }
        int flow = flow(n.hour % 24);
        for (Boat b : n.boats) {
            if (b.lost == 0) {
                b.reach = Math.min(15, Math.max(0, b.reach + flow));
            }
        }
        int all = 0;
        for (int i = 0; i < n.boats.size(); i++) {
            Boat b = n.boats.get(i);
            if (b.lost != 0) {
                continue;
            }
            int shot = tells("shot", n, b);
            int stick = tells("stick", n, b);
            int come = b.kind == 2 ? 0 : shot * stick / 100;
            int was = b.left + b.right;
            if (b.turned == 0) {
                b.right = Math.min(999, b.right + come);
            } else {
                b.left = Math.min(999, b.left + come);
            }
            int stuck = b.left + b.right - was;
            all += stuck;
            if (stuck > 0) {
                n.line(0, i, stuck);
            }
            n.alarm = Math.min(99, n.alarm + n.drums);
            int how = 0;
            if (b.lean() > tells("list", n, b)) {
                how = 1;
            } else if (real && n.fire > 0 && n.alarm >= 50 && n.draw(1000) < n.fire) {
                how = 2;
            }
            if (how > 0) {
                b.lost = how;
                n.line(2 + how, i, b.left + b.right);
                b.left = 0;
                b.right = 0;
            }
        }
        if (real) {
            int d = n.draw(4);
            if (d == 0 && n.fog > 0) n.fog--;
            if (d == 1 && n.fog < 9) n.fog++;
        }
        n.alarm = Math.max(0, n.alarm - tells("fade", n, null));
        n.hour++;
        return all;
    }

    int tells(String word, Night n, Boat b) {
        Map<String, Integer> seen = new HashMap<>();
        seen.put("fog", n.fog);
        seen.put("drums", n.drums);
        seen.put("alarm", n.alarm);
        seen.put("hour", n.hour % 24);
        seen.put("archers", b == null ? 0 : n.archers[b.reach]);
        seen.put("straw", b == null ? 0 : b.straw);
        seen.put("kind", b == null ? 0 : b.kind);
        seen.put("reach", b == null ? 0 : b.reach);
        seen.put("stuck", b == null ? 0 : b.left + b.right);
        seen.put("lean", b == null ? 0 : b.lean());
        Integer said = null;
        for (LawLine line : law) {
            if (said == null && line.word.equals(word) && (line.b == null || line.b.of(seen) == 1)) {
                said = line.e.of(seen);
            }
        }
        if (word.equals("shot")) {
            int v = said != null ? said : seen.get("archers") - 2 * n.fog;
            return v < 0 ? 0 : v > 99 ? 99 : v;
        }
        if (word.equals("stick")) {
            int v = said != null ? said : 40 + b.straw;
            return v < 0 ? 0 : v > 100 ? 100 : v;
        }
        if (word.equals("list")) {
            int v = said != null ? said : 10 * b.straw;
            return v < 1 ? 1 : v > 999 ? 999 : v;
        }
        int v = said != null ? said : 5;
        return v < 0 ? 0 : v > 99 ? 99 : v;
    }

    int flow(int hour) {
        int[] day = new int[24];
        int greatest = -1;
        int carried = 0;
        for (int[] line : currents) {
            if (line[0] >= greatest) {
                greatest = line[0];
                carried = line[1];
            }
        }
        for (int h = 0; h < 24; h++) {
            for (int[] line : currents) {
                if (line[0] == h) {
                    carried = line[1];
                }
            }
            day[h] = carried;
        }
        return day[hour];
    }

    // ---- texts

    int feed(int a, int b, int c, int d, int e) {
        if (tape.length() + 20 > 400) {
            return NONE;
        }
        StringBuilder s = new StringBuilder(tape);
        for (int x : new int[] {a, b, c, d, e}) {
            s.append((char) (x >>> 24)).append((char) (x >> 16 & 255)).append((char) (x >> 8 & 255));
            s.append((char) (x & 255));
        }
        tape = s.toString();
        return tape.length();
    }

    boolean end(int n) {
        if (n < 0 || n > tape.length()) {
            return false;
        }
        tape = tape.substring(0, n);
        return true;
    }

    int text(int k) {
        Parser p = new Parser(tape, night.boats.size());
        tape = "";
        faultWhat = 0;
        faultAt = NONE;
        try {
            if (k == 0) {
                law = p.law();
                return law.size();
            }
            if (k == 1) {
                currents = p.currents();
                past.clear();
                return currents.size();
            }
            if (k == 2) {
                plan = p.plan();
                past.clear();
                return plan.size();
            }
            if (k == 3) {
                villages = p.villages();
                return villages.size();
            }
        } catch (Fault f) {
            faultWhat = f.what;
            faultAt = f.at;
        }
        return NONE;
    }

    /** By recursion, on the characters themselves. */
    static final class Parser {
        static final Set<String> SEEN = Set.of("fog", "drums", "alarm", "archers", "straw", "kind", "reach", "hour",
            "stuck", "lean");
        final String s;
        final int boats;
        int at;
        int open;

        Parser(String s, int boats) {
            this.s = s;
            this.boats = boats;
        }

        static boolean letter(char c) {
            return c >= 'a' && c <= 'z' || c >= 'A' && c <= 'Z';
        }

        static boolean digit(char c) {
            return c >= '0' && c <= '9';
        }

        void blanks() {
            while (at < s.length() && (s.charAt(at) == ' ' || s.charAt(at) == '\n')) {
                at++;
            }
        }

        String peek() {
            blanks();
            if (at == s.length()) {
                return "";
            }
            int e = at + 1;
            if (letter(s.charAt(at))) {
                while (e < s.length() && letter(s.charAt(e))) e++;
            } else if (digit(s.charAt(at))) {
                while (e < s.length() && digit(s.charAt(e))) e++;
            }
            return s.substring(at, e);
        }

        boolean ahead(String t) {
            return peek().equals(t);
        }

        Fault fault(int what) {
            blanks();
            return new Fault(what, at);
        }

        void take(String t) {
            if (!ahead(t)) {
                throw fault(1);
            }
            at += t.length();
        }

        int number(int least, int most) {
            String t = peek();
            if (t.isEmpty() || !digit(t.charAt(0)) || t.length() > 4) {
                throw fault(1);
            }
            int v = Integer.parseInt(t);
            if (v < least || v > most) {
                throw fault(2);
            }
            at += t.length();
            return v;
        }

        List<LawLine> law() {
            List<LawLine> all = new ArrayList<>();
            while (!peek().isEmpty()) {
                String w = peek();
                if (!List.of("shot", "stick", "list", "fade").contains(w)) {
                    throw fault(1);
                }
                if (all.size() == 16) {
                    throw fault(3);
                }
                take(w);
                LawLine line = new LawLine();
                line.word = w;
                line.e = e();
                if (ahead("when")) {
                    take("when");
                    line.b = b();
                }
                take(";");
                all.add(line);
            }
            return all;
        }

        Tree b() {
            Tree x = a();
            while (ahead("or")) {
                take("or");
                Tree l = x;
                Tree r = a();
                x = seen -> l.of(seen) == 1 || r.of(seen) == 1 ? 1 : 0;
            }
            return x;
        }

        Tree a() {
            Tree x = c();
            while (ahead("and")) {
                take("and");
                Tree l = x;
                Tree r = c();
                x = seen -> l.of(seen) == 1 && r.of(seen) == 1 ? 1 : 0;
            }
            return x;
        }

        Tree c() {
            if (ahead("not") || ahead("(")) {
                boolean not = ahead("not");
                if (open == 8) {
                    throw fault(3);
                }
                open++;
                take(not ? "not" : "(");
                Tree x = not ? c() : b();
                if (!not) {
                    take(")");
                }
                open--;
                return not ? seen -> 1 - x.of(seen) : x;
            }
            Tree l = e();
            String sign = peek();
            if (!List.of("<", "=", ">").contains(sign)) {
                throw fault(1);
            }
            take(sign);
            Tree r = e();
            return seen -> {
                int d = Integer.compare(l.of(seen), r.of(seen));
                return (sign.equals("<") ? d < 0 : sign.equals("=") ? d == 0 : d > 0) ? 1 : 0;
            };
        }

        Tree e() {
            Tree x = t();
            while (ahead("+") || ahead("-")) {
                boolean plus = ahead("+");
                take(peek());
                Tree l = x;
                Tree r = t();
                x = plus ? seen -> l.of(seen) + r.of(seen) : seen -> l.of(seen) - r.of(seen);
            }
            return x;
        }

        Tree t() {
            Tree x = u();
            while (ahead("*") || ahead("/")) {
                boolean times = ahead("*");
                take(peek());
                Tree l = x;
                if (times) {
                    Tree r = u();
                    x = seen -> l.of(seen) * r.of(seen);
                } else {
                    int by = number(1, 9999);
                    x = seen -> l.of(seen) / by;
                }
            }
            return x;
        }

        Tree u() {
            String w = peek();
            if (SEEN.contains(w)) {
                take(w);
                return seen -> seen.get(w);
            }
            int v = number(0, 9999);
            return seen -> v;
        }

        List<int[]> currents() {
            List<int[]> all = new ArrayList<>();
            while (!peek().isEmpty()) {
                if (ahead("hour") && all.size() == 16) {
                    throw fault(3);
                }
                take("hour");
                int h = number(0, 23);
                boolean up = ahead("drift");
                take(up ? "drift" : "ebb");
                int far = number(0, 5);
                take(";");
                all.add(new int[] {h, up ? far : -far});
            }
            return all;
        }

        List<int[]> plan() {
            List<int[]> all = new ArrayList<>();
            while (!peek().isEmpty()) {
                if (ahead("at") && all.size() == 16) {
                    throw fault(3);
                }
                take("at");
                int[] line = {number(0, 999), 0, 0, 0};
                String act = peek();
                if (!List.of("turn", "drums", "home", "move").contains(act)) {
                    throw fault(1);
                }
                take(act);
                line[1] = act.charAt(0);
                if (act.equals("drums")) {
                    line[3] = number(0, 9);
                } else {
                    line[2] = number(0, boats - 1);
                    if (act.equals("move")) {
                        take("to");
                        line[3] = number(0, 15);
                    }
                }
                take(";");
                all.add(line);
            }
            return all;
        }

        Map<Integer, Village> villages() {
            Map<Integer, Village> all = new HashMap<>();
            while (!peek().isEmpty()) {
                take("village");
                blanks();
                int place = at;
                int v = number(0, 11);
                if (all.containsKey(v)) {
                    throw new Fault(2, place);
                }
                Village x = new Village();
                take("straw");
                x.straw = number(1, 99);
                if (ahead("talks")) {
                    String joint = "talks";
                    while (ahead(joint)) {
                        take(joint);
                        blanks();
                        place = at;
                        int w = number(0, 11);
                        if (w == v) {
                            throw new Fault(2, place);
                        }
                        x.says.add(w);
                        joint = "and";
                    }
                }
                take(";");
                all.put(v, x);
            }
            return all;
        }
    }

    int fault(int what) {
        return what == 0 ? faultWhat : what == 1 ? faultAt : NONE;
    }

    // ---- asking

    int of(int boat, int what) {
        if (!there(boat) || what < 0 || what > 9) {
            return NONE;
        }
        Boat b = night.boats.get(boat);
        if (what > 6) {
            return tells(what == 7 ? "shot" : what == 8 ? "stick" : "list", night, b);
        }
        return new int[] {b.straw, b.kind, b.reach, b.left, b.right, b.turned, b.lost}[what];
    }

    int river(int k, int what) {
        if (what == 0 && k >= 0 && k < 16) {
            return night.archers[k];
        }
        return what == 1 && k >= 0 && k < 24 ? flow(k) : -100;
    }

    boolean talk(int a, int b) {
        return villages.containsKey(a) && villages.containsKey(b)
            && (villages.get(a).says.contains(b) || villages.get(b).says.contains(a));
    }

    int village(int v, int what) {
        if (!villages.containsKey(v) || what < 0 || what > 1) {
            return NONE;
        }
        if (what == 0) {
            return villages.get(v).straw;
        }
        int set = 0;
        for (int w = 0; w < 12; w++) {
            set += talk(v, w) ? 1 << w : 0;
        }
        return set;
    }

    int book(int i, int what) {
        if (i < 0 || i >= night.book.size() || what < 0 || what > 3) {
            return NONE;
        }
        return night.book.get(i)[what];
    }

    int goes(int n, int what) {
        if (n < 1 || n > 99 || what < 0 || what > 2) {
            return NONE;
        }
        Night t = night.copy();
        for (int i = 0; i < n; i++) {
            hour(t, false);
        }
        return new int[] {t.had(), t.lost(), t.alarm}[what];
    }

    int stays(int boat) {
        if (!afloat(boat)) {
            return NONE;
        }
        Night t = night.copy();
        for (int i = 1; i < 100; i++) {
            hour(t, false);
            if (t.boats.get(boat).lost != 0) {
                return i;
            }
        }
        return NONE;
    }

    int keeps(int m) {
        if (m < 1 || m > 9999) {
            return NONE;
        }
        Night t = night.copy();
        for (int i = 0; i < 100; i++) {
            if (t.had() >= m) {
                return i;
            }
            hour(t, false);
        }
        return NONE;
    }

    int turnings(int boat, int n, int what) {
        if (!afloat(boat) || n < 1 || n > 10 || what < 0 || what > 1) {
            return NONE;
        }
        int most = NONE;
        int best = NONE;
        for (int set = 0; set < 1 << n; set++) {
            Night t = night.copy();
            for (int i = 0; i < n && t.boats.get(boat).lost == 0; i++) {
                if ((set & 1 << i) != 0) {
                    t.boats.get(boat).turned ^= 1;
                }
                hour(t, false);
            }
            Boat b = t.boats.get(boat);
            if (b.lost == 0 && b.left + b.right > most) {
                most = b.left + b.right;
                best = set;
            }
        }
        return what == 0 ? most : best;
    }

    int lies(int n) {
        if (n < 1 || n > 20) {
            return NONE;
        }
        int best = 0;
        long score = Long.MIN_VALUE;
        for (int r = 0; r < 16; r++) {
            Night t = night.copy();
            for (Boat b : t.boats) {
                if (b.lost == 0) {
                    b.reach = r;
                }
            }
            for (int i = 0; i < n; i++) {
                hour(t, false);
            }
            long s = -10000000000L * t.lost() + t.had();
            if (s > score) {
                score = s;
                best = r;
            }
        }
        return best;
    }

    int fogs(int f, int n) {
        if (f < 0 || f > 9 || n < 0 || n > 48) {
            return NONE;
        }
        int[] p = new int[10];
        p[night.fog] = 1000000;
        for (int i = 0; i < n; i++) {
            int[] q = p.clone();
            for (int x = 0; x < 10; x++) {
                int quarter = p[x] / 4;
                if (x > 0) {
                    q[x] -= quarter;
                    q[x - 1] += quarter;
                }
                if (x < 9) {
                    q[x] -= quarter;
                    q[x + 1] += quarter;
                }
            }
            p = q;
        }
        int all = 0;
        for (int x = f; x < 10; x++) {
            all += p[x];
        }
        return all;
    }

    int buys(int s, int what) {
        if (s < 1 || s > 999 || what < 0 || what > 1) {
            return NONE;
        }
        int best = NONE;
        for (int set = 0; set < 4096; set++) {
            int straw = 0;
            boolean good = true;
            for (int a = 0; a < 12; a++) {
                if ((set & 1 << a) == 0) {
                    continue;
                }
                if (!villages.containsKey(a)) {
                    good = false;
                    break;
                }
                straw += villages.get(a).straw;
                for (int b = 0; b < a; b++) {
                    good &= (set & 1 << b) == 0 || !talk(a, b);
                }
            }
            if (good && straw >= s && (best == NONE || Integer.bitCount(best) > Integer.bitCount(set))) {
                best = set;
            }
        }
        return best == NONE ? NONE : what == 0 ? Integer.bitCount(best) : best;
    }

    int reached(int v, int silent) {
        ArrayDeque<Integer> todo = new ArrayDeque<>();
        todo.add(v);
        int all = 1 << v;
        while (!todo.isEmpty()) {
            int a = todo.remove();
            for (int b = 0; b < 12; b++) {
                if (talk(a, b) && (all & 1 << b) == 0 && (silent & 1 << b) == 0) {
                    all |= 1 << b;
                    todo.add(b);
                }
            }
        }
        return all;
    }

    int hears(int v) {
        return villages.containsKey(v) ? reached(v, 0) : NONE;
    }

    int cuts(int a, int b) {
        if (a == b || !villages.containsKey(a) || !villages.containsKey(b) || talk(a, b)) {
            return NONE;
        }
        // As many as there are ways from a to b that share none between (Menger): each way found may take back others.
        int ways = 0;
        int[][] room = new int[24][24];
        for (int v = 0; v < 12; v++) {
            room[2 * v][2 * v + 1] = v == a || v == b ? 99 : 1;
            for (int w = 0; w < 12; w++) {
                if (v != w && talk(v, w)) {
                    room[2 * v + 1][2 * w] = 99;
                }
            }
        }
        while (push(room, 2 * a, 2 * b + 1, new HashSet<>())) {
            ways++;
        }
        return ways;
    }

    static boolean push(int[][] room, int from, int to, Set<Integer> been) {
        if (from == to) {
            return true;
        }
        been.add(from);
        for (int x = 0; x < 24; x++) {
            if (room[from][x] > 0 && !been.contains(x) && push(room, x, to, been)) {
                room[from][x]--;
                room[x][from]++;
                return true;
            }
        }
        return false;
    }

    int count(int m, int r) {
        if (m == NONE) {
            things.clear();
            return 0;
        }
        if (m < 0 || m > 30 || r < 0 || m > 1 && r >= m || r > 1000 || things.size() == 8) {
            return NONE;
        }
        things.add(new int[] {m, r});
        return things.size();
    }

    List<Integer> fitting() {
        List<Integer> all = new ArrayList<>();
        for (int x = 0; x < 1000; x++) {
            boolean good = true;
            for (int[] t : things) {
                good &= t[0] == 0 ? x < t[1] : t[0] == 1 ? x >= t[1] : x % t[0] == t[1];
            }
            if (good) {
                all.add(x);
            }
        }
        return all;
    }

    int fits(int what) {
        List<Integer> all = fitting();
        if (what == 0) {
            return all.size();
        }
        if (what == 1 || what == 2) {
            return all.isEmpty() ? NONE : all.get(what == 1 ? 0 : all.size() - 1);
        }
        if (what != 3 || all.size() < 2) {
            return NONE;
        }
        int best = 0;
        int least = Integer.MAX_VALUE;
        for (int m = 2; m <= 30; m++) {
            Map<Integer, Integer> rests = new HashMap<>();
            int most = 0;
            for (int x : all) {
                most = Math.max(most, rests.merge(x % m, 1, Integer::sum));
            }
            if (most < least) {
                least = most;
                best = m;
            }
        }
        return best;
    }

    boolean bank(int k, int v) {
        if (k < 0 || k > 3 || v < 0 || v > 99) {
            return false;
        }
        costs[k] = v;
        return true;
    }

    int rests(int what) {
        if (what < 0 || what > 1) {
            return NONE;
        }
        int best = -1;
        int least = Integer.MAX_VALUE;
        for (int p = 0; p <= 1000; p++) {
            int worst = 0;
            for (int shoot = 0; shoot < 2; shoot++) {
                worst = Math.max(worst, p * costs[2 + shoot] + (1000 - p) * costs[shoot]);
            }
            if (worst < least) {
                least = worst;
                best = p;
            }
        }
        return what == 0 ? best : least;
    }

    int mark(int n) {
        if (n == NONE) {
            marks.clear();
            return 0;
        }
        if (n < 1 || n > 999 || marks.size() == 6) {
            return NONE;
        }
        marks.add(n);
        return marks.size();
    }

    int share(int n, int owner) {
        if (n < 0 || n > 9999 || owner < 0 || owner >= marks.size()) {
            return NONE;
        }
        int all = 0;
        for (int m : marks) {
            all += m;
        }
        int[] gets = new int[marks.size()];
        int left = n;
        List<Integer> order = new ArrayList<>();
        for (int i = 0; i < gets.length; i++) {
            gets[i] = n * marks.get(i) / all;
            left -= gets[i];
            order.add(i);
        }
        int total = all;
        order.sort((x, y) -> Integer.compare(n * marks.get(y) % total, n * marks.get(x) % total));
        for (int i = 0; i < left; i++) {
            gets[order.get(i)]++;
        }
        return gets[owner];
    }

    /** What a heap is worth, found from what can be left of it. */
    static int worth(int heap, int most) {
        int[] w = new int[heap + 1];
        for (int h = 1; h <= heap; h++) {
            Set<Integer> left = new HashSet<>();
            for (int k = 1; k <= most && k <= h; k++) {
                left.add(w[h - k]);
            }
            while (left.contains(w[h])) {
                w[h]++;
            }
        }
        return w[heap];
    }

    int game(int what) {
        if (what < 0 || what > 1) {
            return NONE;
        }
        int n = night.boats.size();
        int most = night.drums + 1;
        for (int b = 0; b < n; b++) {
            for (int k = 1; k <= most && afloat(b) && k <= night.boats.get(b).lean(); k++) {
                int x = worth(night.boats.get(b).lean() - k, most);
                for (int c = 0; c < n; c++) {
                    x ^= c != b && afloat(c) ? worth(night.boats.get(c).lean(), most) : 0;
                }
                if (x == 0) {
                    return what == 0 ? b : k;
                }
            }
        }
        return NONE;
    }

    int crowd(int what) {
        int[] at = new int[16];
        for (Boat b : night.boats) {
            at[b.reach] += b.lost == 0 ? 1 : 0;
        }
        int best = 0;
        int archers = 0;
        for (int r = 0; r < 16; r++) {
            best = at[r] > at[best] ? r : best;
            archers += at[r] > 0 ? night.archers[r] : 0;
        }
        if (what == 0) {
            return at[best] == 0 ? NONE : best;
        }
        return what == 1 ? at[best] : what == 2 ? archers : NONE;
    }

    int heavy(int what) {
        int best = -1;
        int least = Integer.MAX_VALUE;
        for (int i = 0; i < night.boats.size(); i++) {
            Boat b = night.boats.get(i);
            int lack = tells("list", night, b) - b.lean();
            if (b.lost == 0 && lack < least) {
                best = i;
                least = lack;
            }
        }
        return best < 0 || what < 0 || what > 1 ? -1000 : what == 0 ? best : least;
    }

    boolean undo() {
        if (past.isEmpty()) {
            return false;
        }
        night = past.removeLast();
        return true;
    }

    /** A copy of all but the TAPE, the FAULT and the past; lines of texts are never changed once they are read. */
    PlainRiver copy() {
        PlainRiver p = new PlainRiver();
        p.takeFrom(this);
        return p;
    }

    void takeFrom(PlainRiver o) {
        night = o.night.copy();
        law = o.law;
        currents = o.currents;
        plan = o.plan;
        villages = o.villages;
        things = new ArrayList<>(o.things);
        costs = o.costs.clone();
        marks = new ArrayList<>(o.marks);
    }

    boolean image(boolean taken) {
        if (taken) {
            image = copy();
            return true;
        }
        if (image == null) {
            return false;
        }
        takeFrom(image);
        past.clear();
        return true;
    }

    int look(int what) {
        int lost = 0;
        for (int b = 0; b < night.boats.size(); b++) {
            lost |= night.boats.get(b).lost != 0 ? 1 << b : 0;
        }
        int[] all = {night.boats.size(), night.hour, night.fog, night.drums, night.alarm, night.fire, night.arrows, lost,
            night.book.size(), night.draws, law.size(), currents.size(), plan.size(), villages.size(), things.size(),
            marks.size(), past.size()};
        return what < 0 || what >= all.length ? NONE : all[what];
    }
}
