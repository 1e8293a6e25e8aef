import java.util.ArrayList;
import java.util.List;

/** Long runs of drawn calls on FogArrows and on PlainRiver, which must answer alike. The draws are always the same. */
public final class FogArrowsFuzz {
    private long seed;
    private FogArrows x;
    private PlainRiver y;
    private final List<String> calls = new ArrayList<>();
    private static int wrong = 0;

    private FogArrowsFuzz(long seed) {
        this.seed = seed * 0x9E3779B97F4A7C15L + 1;
    }

    private int draw(int m) {
        seed = seed * 6364136223846793005L + 1442695040888963407L;
        return (int) ((seed >>> 33) % m);
    }

    /** Mostly within least .. most, at times at an end or beyond it. */
    private int around(int least, int most) {
        switch (draw(24)) {
            case 0: return least - 1;
            case 1: return most + 1;
            case 2: return least;
            case 3: return most;
            case 4: return draw(2) == 0 ? Integer.MAX_VALUE : Integer.MIN_VALUE;
            default: return least + draw(most - least + 1);
        }
    }

    private String pick(String... of) {
        return of[draw(of.length)];
    }

    private static final String[] SEEN = {"fog", "drums", "alarm", "archers", "straw", "kind", "reach", "hour", "stuck",
        "lean"};

    private String number(int most) {
        return draw(40) == 0 ? pick("0", "9999", "10000", "007", "24", "100") : Integer.toString(draw(most + 1));
    }

    private String factor() {
        return draw(2) == 0 ? pick(SEEN) : number(draw(3) == 0 ? 999 : 30);
    }

    private String sum() {
        StringBuilder s = new StringBuilder(factor());
        for (int i = draw(4); i > 0; i--) {
            String sign = pick("+", "-", "*", "/");
            s.append(pick("", " ")).append(sign).append(pick("", " "));
            s.append(sign.equals("/") ? number(9) : factor());
        }
        return s.toString();
    }

    private String condition(int depth) {
        int kind = depth > 8 ? 3 : draw(8);
        switch (kind) {
            case 0: return "not " + condition(depth + 1);
            case 1: return "(" + condition(depth + 1) + ")";
            case 2: return condition(depth + 1) + pick(" and ", " or ") + condition(depth + 1);
            default: return sum() + pick("<", "=", ">") + sum();
        }
    }

    private String lawText() {
        StringBuilder s = new StringBuilder();
        for (int i = draw(draw(20) == 0 ? 20 : 8); i > 0; i--) {
            s.append(pick("shot ", "stick ", "list ", "fade ")).append(sum());
            if (draw(2) == 0) {
                s.append(pick(" when ", "\nwhen ")).append(condition(draw(20) == 0 ? -6 : 4));
            }
            s.append(";");
        }
        return s.toString();
    }

    private String currentText() {
        StringBuilder s = new StringBuilder();
        for (int i = draw(draw(10) == 0 ? 20 : 8); i > 0; i--) {
            s.append("hour ").append(number(23)).append(pick(" drift ", " ebb ")).append(number(5)).append(pick(";", " ; "));
        }
        return s.toString();
    }

    private String planText() {
        StringBuilder s = new StringBuilder();
        int boats = Math.max(1, y.night.boats.size());
        for (int i = draw(draw(10) == 0 ? 20 : 10); i > 0; i--) {
            s.append("at ").append(draw(3) == 0 ? number(999) : Integer.toString(y.night.hour % 1000 + draw(9)));
            int boat = draw(30) == 0 ? boats : draw(boats);
            switch (draw(4)) {
                case 0: s.append(" turn ").append(boat); break;
                case 1: s.append(" home ").append(boat); break;
                case 2: s.append(" move ").append(boat).append(" to ").append(number(15)); break;
                default: s.append(" drums ").append(number(9)); break;
            }
            s.append(";");
        }
        return s.toString();
    }

    private String villageText() {
        StringBuilder s = new StringBuilder();
        boolean sparse = draw(2) == 0;
        for (int v = draw(3); v < 12; v += 1 + draw(2)) {
            s.append("village ").append(draw(30) == 0 ? draw(12) : v).append(" straw ").append(number(98));
            if (draw(3) != 0) {
                s.append(" talks ").append((v + 1 + draw(draw(30) == 0 ? 12 : 11)) % 12);
                for (int i = draw(sparse ? 2 : 4); i > 0; i--) {
                    s.append(" and ").append((v + 1 + draw(11)) % 12);
                }
            }
            s.append(";");
        }
        return s.toString();
    }

    private String spoiled(String s) {
        StringBuilder t = new StringBuilder(s);
        int at = draw(t.length() + 1);
        switch (draw(4)) {
            case 0: t.setLength(at); break;
            case 1: t.insert(at, pick(";", "(", ")", "not ", " ", ".", "A", "\t", "9", "\u00e9", "and ", "/", "<", "or ")); break;
            case 2:
                if (at < t.length()) {
                    t.deleteCharAt(at);
                }
                break;
            default:
                if (at < t.length()) {
                    t.setCharAt(at, t.charAt(draw(t.length())));
                }
                break;
        }
        return t.toString();
    }

    private void say(String text) {
        if (text.length() > 400) {
            text = text.substring(0, 400);
        }
        for (int i = 0; i < text.length(); i += 20) {
            int[] n = new int[5];
            for (int j = 0; j < 20; j++) {
                int c = i + j < text.length() ? text.charAt(i + j) & 255 : 32;
                n[j / 4] = n[j / 4] << 8 | c;
            }
            same("feed " + i, x.feed(n[0], n[1], n[2], n[3], n[4]), y.feed(n[0], n[1], n[2], n[3], n[4]));
        }
        same("end " + text.length(), x.end(text.length()), y.end(text.length()));
    }

    private void same(String call, boolean got, boolean want) {
        same(call, got ? 1 : 0, want ? 1 : 0);
    }

    private void same(String call, int got, int want) {
        calls.add(call + " -> " + got);
        if (got != want) {
            wrong++;
            if (wrong < 4) {
                for (int i = Math.max(0, calls.size() - 40); i < calls.size(); i++) {
                    System.out.println(calls.get(i));
                }
                System.out.println("  but the plain river answers " + want);
            }
        }
    }

    private void lookAll() {
        for (int i = 0; i < 17; i++) {
            same("look " + i, x.look(i), y.look(i));
        }
        for (int b = 0; b < y.night.boats.size(); b++) {
            int w = draw(10);
            same("of " + b + " " + w, x.of(b, w), y.of(b, w));
        }
        for (int w = 0; w < 4; w++) {
            int i = y.night.book.size() - 1 - draw(5);
            same("book " + i + " " + w, x.book(i, w), y.book(i, w));
        }
    }

    private void tell() {
        int a;
        int b;
        int c;
        switch (draw(19)) {
            case 0:
                a = draw(2) == 0 ? draw(1 << 30) : -draw(1 << 30);
                same("state " + a, x.state(a), y.state(a));
                break;
            case 1:
            case 2:
                a = around(1, 40);
                b = around(0, 2);
                c = around(0, 15);
                same("boat " + a + " " + b + " " + c, x.boat(a, b, c), y.boat(a, b, c));
                break;
            case 3:
            case 4:
                a = around(0, 6);
                b = around(0, a == 4 ? 15 : 9);
                c = around(0, new int[] {9, 9, 99, 1000, 99, 999, 999}[Math.max(0, Math.min(6, a))]);
                same("set " + a + " " + b + " " + c, x.set(a, b, c), y.set(a, b, c));
                break;
            case 5:
                a = around(0, 9);
                same("turn " + a, x.turn(a), y.turn(a));
                break;
            case 6:
                a = around(0, 9);
                same("home " + a, x.home(a), y.home(a));
                break;
            case 7:
                a = around(0, 9);
                b = around(0, 15);
                same("move " + a + " " + b, x.move(a, b), y.move(a, b));
                break;
            case 8:
            case 9:
                a = draw(10) == 0 ? around(1, 60) : draw(6);
                same("hours " + a, x.hours(a), y.hours(a));
                break;
            case 10:
            case 11:
                text();
                break;
            case 12:
                a = draw(12) == 0 ? NONE : around(0, 30);
                b = around(0, a < 2 ? draw(2) == 0 ? 1000 : 300 : draw(5) == 0 ? a : Math.min(a, 3));
                same("count " + a + " " + b, x.count(a, b), y.count(a, b));
                break;
            case 13:
                a = around(0, 3);
                b = around(0, 99);
                same("bank " + a + " " + b, x.bank(a, b), y.bank(a, b));
                break;
            case 14:
                a = draw(12) == 0 ? NONE : around(1, draw(2) == 0 ? 999 : 20);
                same("mark " + a, x.mark(a), y.mark(a));
                break;
            case 15:
            case 16:
                same("undo", x.undo(), y.undo());
                break;
            default:
                boolean taken = draw(3) == 0;
                if (taken || draw(3) == 0) {
                    same("image " + taken, x.image(taken), y.image(taken));
                }
                break;
        }
    }

    private static final int NONE = -1;

    private void text() {
        int k = draw(4);
        String s = k == 0 ? lawText() : k == 1 ? currentText() : k == 2 ? planText() : villageText();
        if (draw(4) == 0) {
            s = spoiled(s);
        }
        say(s);
        if (draw(30) == 0) {
            k = around(0, 3);
        }
        same("text " + k + " of " + s, x.text(k), y.text(k));
        same("fault 0", x.fault(0), y.fault(0));
        same("fault 1", x.fault(1), y.fault(1));
        same("fault 2", x.fault(2), y.fault(2));
    }

    private void ask() {
        int a;
        int b;
        int w;
        switch (draw(20)) {
            case 0: a = around(0, 23); w = around(0, 1); same("river " + a + " " + w, x.river(a, w), y.river(a, w)); break;
            case 1: a = around(0, 11); w = around(0, 1); same("village " + a + " " + w, x.village(a, w), y.village(a, w)); break;
            case 2: a = around(0, 149); w = around(0, 3); same("book " + a + " " + w, x.book(a, w), y.book(a, w)); break;
            case 3: a = around(1, 99); w = around(0, 2); same("goes " + a + " " + w, x.goes(a, w), y.goes(a, w)); break;
            case 4: a = around(0, 9); same("stays " + a, x.stays(a), y.stays(a)); break;
            case 5: a = around(1, draw(2) == 0 ? 9999 : 500); same("keeps " + a, x.keeps(a), y.keeps(a)); break;
            case 6: a = around(0, 9); b = draw(30) == 0 ? around(1, 10) : 1 + draw(4); w = around(0, 1);
                same("turnings " + a + " " + b + " " + w, x.turnings(a, b, w), y.turnings(a, b, w)); break;
            case 7: a = around(1, 20); same("lies " + a, x.lies(a), y.lies(a)); break;
            case 8: a = around(0, 9); b = around(0, 48); same("fogs " + a + " " + b, x.fogs(a, b), y.fogs(a, b)); break;
            case 9: a = around(1, draw(2) == 0 ? 999 : 200); w = around(0, 1); same("buys " + a + " " + w, x.buys(a, w), y.buys(a, w)); break;
            case 10: a = around(0, 11); same("hears " + a, x.hears(a), y.hears(a)); break;
            case 11: a = around(0, 11); b = around(0, 11); same("cuts " + a + " " + b, x.cuts(a, b), y.cuts(a, b)); break;
            case 12: w = around(0, 3); same("fits " + w, x.fits(w), y.fits(w)); break;
            case 13: w = around(0, 1); same("rests " + w, x.rests(w), y.rests(w)); break;
            case 14: a = around(0, draw(2) == 0 ? 9999 : 30); b = around(0, 5); same("share " + a + " " + b, x.share(a, b), y.share(a, b)); break;
            case 15: w = around(0, 1); same("game " + w, x.game(w), y.game(w)); break;
            case 16: w = around(0, 2); same("crowd " + w, x.crowd(w), y.crowd(w)); break;
            case 17: w = around(0, 1); same("heavy " + w, x.heavy(w), y.heavy(w)); break;
            case 18: a = around(0, 9); w = around(0, 9); same("of " + a + " " + w, x.of(a, w), y.of(a, w)); break;
            default: w = around(0, 16); same("look " + w, x.look(w), y.look(w)); break;
        }
    }

    private void run() {
        x = new FogArrows();
        y = new PlainRiver();
        int fleet = draw(11);
        for (int b = 0; b < fleet; b++) {
            int straw = 1 + draw(40);
            int kind = draw(3);
            int reach = draw(16);
            same("boat " + straw + " " + kind + " " + reach, x.boat(straw, kind, reach), y.boat(straw, kind, reach));
        }
        for (int r = 0; r < 16; r++) {
            int archers = draw(2) == 0 ? draw(40) : draw(100);
            same("set 4 " + r + " " + archers, x.set(4, r, archers), y.set(4, r, archers));
        }
        if (draw(3) == 0) {
            int fire = draw(300);
            same("set 3 0 " + fire, x.set(3, 0, fire), y.set(3, 0, fire));
        }
        // an object is used for at most 512 calls: a text and a look at all behind it may still come
        while (calls.size() < 450) {
            if (draw(2) == 0) {
                tell();
            } else {
                ask();
            }
            if (draw(12) == 0) {
                lookAll();
            }
        }
    }

    public static void main(String[] args) {
        int runs = args.length > 0 ? Integer.parseInt(args[0]) : 150;
        int first = args.length > 1 ? Integer.parseInt(args[1]) : 0;
        for (int i = 0; i < runs && wrong == 0; i++) {
            new FogArrowsFuzz(first + i).run();
        }
        System.out.println(wrong == 0 ? "drawn runs: all alike" : "drawn runs: not alike");
        if (wrong != 0) {
            System.exit(1);
        }
    }
}
