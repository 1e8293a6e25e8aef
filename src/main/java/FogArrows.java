/** Arrows from the fog: the class that ../shared/DOC.md tells of; words in capitals are the document's. */
public final class FogArrows {
    public static final int NONE = -1;

    private static final int BOATS = 10;
    private static final int REACHES = 16;
    private static final int VILLAGES = 12;
    private static final int OWNERS = 6;
    private static final int THINGS = 8;
    private static final int LINES = 16;
    private static final int DAY = 24;
    private static final int KEPT = 6;
    private static final int TAPE = 400;
    private static final int BOOK = 150;
    private static final int COLUMNS = 4;
    private static final int NUMBERS = 1000;
    private static final int MODULI = 30;
    private static final int LAST_HOUR = 9999;
    private static final int SIDE = 999;
    private static final int LOUDEST = 99;
    private static final int THICKEST = 9;
    private static final int TURNS = 10;
    private static final int FAR = 99;
    private static final int MILLION = 1000000;

    private static final int EMPTY = 2;
    private static final int SUNK = 1;
    private static final int BURNT = 2;

    // What a line of THE BOOK tells; that of a LOST BOAT is how it was lost added to AS_LOST.
    private static final int STUCK = 0;
    private static final int WAS_TURNED = 1;
    private static final int CAME_HOME = 2;
    private static final int AS_LOST = 2;
    private static final int WAS_MOVED = 5;

    // The KEYWORDS of all TEXTS stand in one row: that of another text can't stand in a text either.
    private static final String WORDS =
            "fog drums alarm archers straw kind reach hour stuck lean shot stick list fade when or and not drift ebb at turn home move to village talks ";
    private static final int FOG = 0;
    private static final int DRUMS = 1;
    private static final int ALARM = 2;
    private static final int ARCHERS = 3;
    private static final int STRAW = 4;
    private static final int KIND = 5;
    private static final int REACH = 6;
    private static final int HOUR = 7;
    private static final int ARROWS = 8;
    private static final int LEAN = 9;
    private static final int SEEN = 10;
    private static final int SHOT = 10;
    private static final int STICK = 11;
    private static final int LIST = 12;
    private static final int FADE = 13;
    private static final int WHEN = 14;
    private static final int OR = 15;
    private static final int AND = 16;
    private static final int NOT = 17;
    private static final int DRIFT = 18;
    private static final int EBB = 19;
    private static final int AT = 20;
    private static final int TURN = 21;
    private static final int HOME = 22;
    private static final int MOVE = 23;
    private static final int TO = 24;
    private static final int VILLAGE = 25;
    private static final int TALKS = 26;
    // Other TOKENS: these, and the signs, each by its own number (40 and more).
    private static final int END = 30;
    private static final int NUMBER = 31;
    private static final int NO_TOKEN = 32;
    private static final String SIGNS = ";+-*/()<=>";

    private static final int CANT_STAND = 1;
    private static final int BEYOND = 2;
    private static final int TOO_MANY = 3;
    private static final int NEST = 8;

    // THE LAW is kept with its operators behind their parts: a NUMBER is itself, the rest is added to these.
    private static final int ASKED = 10000;
    private static final int OPERATOR = 20000;

    private final World now;
    private final World taken;
    private final Past past;
    private final Thought thought;
    private final Reader reader;
    private boolean isTaken;

    public FogArrows() {
        now = new World();
        taken = new World();
        past = new Past();
        thought = new Thought();
        reader = new Reader();
        isTaken = false;
    }

    public int state(int v) {
        int was = now.night.draws;
        now.night.draws = v;
        past.forget();
        return was;
    }

    public int boat(int straw, int kind, int reach) {
        Night n = now.night;
        if (!within(straw, 1, 40) || !within(kind, 0, EMPTY) || !within(reach, 0, REACHES - 1) || n.boats >= BOATS) {
            return NONE;
        }
        past.forget();
        return n.launch(straw, kind, reach);
    }

    public boolean set(int what, int who, int v) {
        if (!now.night.tell(what, who, v)) {
            return false;
        }
        past.forget();
        return true;
    }

    public boolean turn(int boat) {
        if (!now.night.afloat(boat)) {
            return false;
        }
        past.keep(now.night);
        now.turnAbout(now.night, boat, true);
        return true;
    }

    public int home(int boat) {
        if (!now.night.afloat(boat)) {
            return NONE;
        }
        past.keep(now.night);
        return now.bringHome(now.night, boat, true);
    }

    public boolean move(int boat, int reach) {
        if (!now.night.afloat(boat) || !within(reach, 0, REACHES - 1)) {
            return false;
        }
        past.keep(now.night);
        now.bringTo(now.night, boat, reach, true);
        return true;
    }

    public int hours(int n) {
        if (!within(n, 1, 60) || now.night.hour > LAST_HOUR - n) {
            return NONE;
        }
        int stuck = 0;
        for (int i = 0; i < n; i++) {
            past.keep(now.night);
            stuck += now.pass(now.night, true);
        }
        return stuck;
    }

    public int feed(int a, int b, int c, int d, int e) {
        if (reader.length > TAPE - 20) {
            return NONE;
        }
        reader.take(a);
        reader.take(b);
        reader.take(c);
        reader.take(d);
        reader.take(e);
        return reader.length;
    }

    public boolean end(int n) {
        if (!within(n, 0, reader.length)) {
            return false;
        }
        reader.length = n;
        return true;
    }

    public int text(int k) {
        if (!reader.reads(k, now.night.boats)) {
            return NONE;
        }
        switch (k) {
            case 0:
                now.law.become(reader.law);
                return now.law.lines;
            case 1:
                past.forget();
                now.currents.become(reader.currents);
                return now.currents.lines;
            case 2:
                past.forget();
                now.plan.become(reader.plan);
                return now.plan.lines;
            default:
                now.villages.become(reader.villages);
                return now.villages.lines;
        }
    }

    public int fault(int what) {
        switch (what) {
            case 0: return reader.fault;
            case 1: return reader.faultAt;
            default: return NONE;
        }
    }

    public int of(int boat, int what) {
        Night n = now.night;
        if (!n.has(boat)) {
            return NONE;
        }
        switch (what) {
            case 0: return n.straw[boat];
            case 1: return n.kind[boat];
            case 2: return n.reach[boat];
            case 3: return n.left[boat];
            case 4: return n.right[boat];
            case 5: return n.turned[boat];
            case 6: return n.lost[boat];
            case 7: return now.law.tells(SHOT, n, boat);
            case 8: return now.law.tells(STICK, n, boat);
            case 9: return now.law.tells(LIST, n, boat);
            default: return NONE;
        }
    }

    public int river(int k, int what) {
        if (what == 0 && within(k, 0, REACHES - 1)) {
            return now.night.archers[k];
        }
        if (what == 1 && within(k, 0, DAY - 1)) {
            return now.currents.goesAt(k);
        }
        return NONE - 99;
    }

    public int village(int v, int what) {
        if (!now.villages.isTold(v)) {
            return NONE;
        }
        switch (what) {
            case 0: return now.villages.straw[v];
            case 1: return now.villages.friends[v];
            default: return NONE;
        }
    }

    public int book(int i, int what) {
        if (!within(i, 0, now.night.written - 1) || !within(what, 0, COLUMNS - 1)) {
            return NONE;
        }
        return now.written[COLUMNS * i + what];
    }

    public int goes(int n, int what) {
        if (!within(n, 1, FAR) || !within(what, 0, 2)) {
            return NONE;
        }
        Night then = thought.behind(now, n);
        if (what == 0) {
            return then.had();
        }
        return what == 1 ? then.howManyLost() : then.alarm;
    }

    public int stays(int boat) {
        return now.night.afloat(boat) ? thought.lostBehind(now, boat) : NONE;
    }

    public int keeps(int m) {
        return within(m, 1, 9999) ? thought.hadBehind(now, m) : NONE;
    }

    public int turnings(int boat, int n, int what) {
        if (!now.night.afloat(boat) || !within(n, 1, TURNS) || !within(what, 0, 1)) {
            return NONE;
        }
        return thought.bestTurns(now, boat, n, what);
    }

    public int lies(int n) {
        return within(n, 1, 20) ? thought.bestReach(now, n) : NONE;
    }

    public int fogs(int f, int n) {
        return within(f, 0, THICKEST) && within(n, 0, 48) ? thought.likely(now.night.fog, f, n) : NONE;
    }

    public int buys(int s, int what) {
        if (!within(s, 1, 999) || !within(what, 0, 1)) {
            return NONE;
        }
        int set = now.villages.fewestWith(s);
        return what == 0 && set != NONE ? Integer.bitCount(set) : set;
    }

    public int hears(int v) {
        return now.villages.isTold(v) ? now.villages.hearing(v, 0) : NONE;
    }

    public int cuts(int a, int b) {
        if (a == b || !now.villages.isTold(a) || !now.villages.isTold(b) || now.villages.talk(a, b)) {
            return NONE;
        }
        return now.villages.fewestSilent(a, b);
    }

    public int count(int m, int r) {
        if (m == NONE) {
            now.clues.things = 0;
            return 0;
        }
        return now.clues.take(m, r);
    }

    public int fits(int what) {
        switch (what) {
            case 0: return now.clues.fitting();
            case 1: return now.clues.least();
            case 2: return now.clues.greatest();
            case 3: return now.clues.bestToAsk();
            default: return NONE;
        }
    }

    public boolean bank(int k, int v) {
        if (!within(k, 0, 3) || !within(v, 0, 99)) {
            return false;
        }
        now.ledger.costs[k] = v;
        return true;
    }

    public int rests(int what) {
        if (!within(what, 0, 1)) {
            return NONE;
        }
        int p = now.ledger.cheapest();
        return what == 0 ? p : now.ledger.dearer(p);
    }

    public int mark(int n) {
        if (n == NONE) {
            now.ledger.owners = 0;
            return 0;
        }
        return now.ledger.enter(n);
    }

    public int share(int n, int owner) {
        if (!within(n, 0, 9999) || !within(owner, 0, now.ledger.owners - 1)) {
            return NONE;
        }
        return now.ledger.part(n, owner);
    }

    public int game(int what) {
        return within(what, 0, 1) ? now.night.takesWell(what) : NONE;
    }

    public int crowd(int what) {
        switch (what) {
            case 0: return now.night.fullestReach();
            case 1: return now.night.boatsAt(now.night.fullestReach());
            case 2: return now.night.archersNear();
            default: return NONE;
        }
    }

    public int heavy(int what) {
        int boat = now.heaviest();
        if (boat == NONE || !within(what, 0, 1)) {
            return NONE - 999;
        }
        return what == 0 ? boat : now.lacks(boat);
    }

    public boolean undo() {
        return past.bringBack(now.night);
    }

    public boolean image(boolean taken) {
        if (taken) {
            this.taken.become(now);
            isTaken = true;
            return true;
        }
        if (!isTaken) {
            return false;
        }
        now.become(this.taken);
        past.forget();
        return true;
    }

    public int look(int what) {
        Night n = now.night;
        switch (what) {
            case 0: return n.boats;
            case 1: return n.hour;
            case 2: return n.fog;
            case 3: return n.drums;
            case 4: return n.alarm;
            case 5: return n.fire;
            case 6: return n.arrows;
            case 7: return n.allLost();
            case 8: return n.written;
            case 9: return n.draws;
            case 10: return now.law.lines;
            case 11: return now.currents.lines;
            case 12: return now.plan.lines;
            case 13: return now.villages.lines;
            case 14: return now.clues.things;
            case 15: return now.ledger.owners;
            case 16: return past.kept;
            default: return NONE;
        }
    }

    private static boolean within(int v, int least, int greatest) {
        return v >= least && v <= greatest;
    }

    private static void copy(int[] from, int[] to) {
        System.arraycopy(from, 0, to, 0, Math.min(from.length, to.length));
    }

    /** All that is and was told: what THE IMAGE keeps. */
    private static final class World {
        final Night night = new Night();
        final int[] written = new int[COLUMNS * BOOK];
        final Law law = new Law();
        final Currents currents = new Currents();
        final Plan plan = new Plan();
        final Villages villages = new Villages();
        final Clues clues = new Clues();
        final Ledger ledger = new Ledger();

        void become(World o) {
            night.become(o.night);
            copy(o.written, written);
            law.become(o.law);
            currents.become(o.currents);
            plan.become(o.plan);
            villages.become(o.villages);
            clues.become(o.clues);
            ledger.become(o.ledger);
        }

        /** One HOUR of a night: how many arrows stuck. Of one that is not real there are no DRAWS and no lines. */
        int pass(Night n, boolean real) {
            for (int i = 0; i < plan.lines; i++) {
                if (plan.hours[i] == n.hour) {
                    follow(n, i, real);
                }
            }
            n.drift(currents.goesAt(n.hour % DAY));
            int stuck = 0;
            for (int b = 0; b < n.boats; b++) {
                if (n.afloat(b)) {
                    stuck += shoot(n, b, real);
                }
            }
            if (real) {
                n.fogMoves();
            }
            n.alarm = Math.max(0, n.alarm - law.tells(FADE, n, NONE));
            n.hour++;
            return stuck;
        }

        private void follow(Night n, int line, boolean real) {
            int boat = plan.boats[line];
            if (plan.acts[line] == DRUMS) {
                n.drums = plan.values[line];
            } else if (n.afloat(boat)) {
                switch (plan.acts[line]) {
                    case TURN:
                        turnAbout(n, boat, real);
                        break;
                    case HOME:
                        bringHome(n, boat, real);
                        break;
                    default:
                        bringTo(n, boat, plan.values[line], real);
                        break;
                }
            }
        }

        private int shoot(Night n, int b, boolean real) {
            int shot = law.tells(SHOT, n, b);
            int stick = law.tells(STICK, n, b);
            int stuck = n.stickIn(b, n.kind[b] == EMPTY ? 0 : shot * stick / 100);
            if (stuck > 0) {
                write(n, STUCK, b, stuck, real);
            }
            n.alarm = Math.min(LOUDEST, n.alarm + n.drums);
            if (n.lean(b) > law.tells(LIST, n, b)) {
                lose(n, b, SUNK, real);
            } else if (real && n.burns()) {
                lose(n, b, BURNT, real);
            }
            return stuck;
        }

        private void lose(Night n, int b, int how, boolean real) {
            n.lost[b] = how;
            write(n, AS_LOST + how, b, n.takeOff(b), real);
        }

        void turnAbout(Night n, int b, boolean real) {
            n.turned[b] = 1 - n.turned[b];
            write(n, WAS_TURNED, b, 0, real);
        }

        int bringHome(Night n, int b, boolean real) {
            int brought = n.takeOff(b);
            n.arrows += brought;
            write(n, CAME_HOME, b, brought, real);
            return brought;
        }

        void bringTo(Night n, int b, int reach, boolean real) {
            n.reach[b] = reach;
            write(n, WAS_MOVED, b, reach, real);
        }

        private void write(Night n, int what, int boat, int many, boolean real) {
            if (!real || !within(n.written, 0, BOOK - 1)) {
                return;
            }
            int at = COLUMNS * n.written;
            written[at] = n.hour;
            written[at + 1] = what;
            written[at + 2] = boat;
            written[at + 3] = many;
            n.written++;
        }

        int lacks(int b) {
            return law.tells(LIST, night, b) - night.lean(b);
        }

        int heaviest() {
            int best = NONE;
            int least = 0;
            for (int b = 0; b < night.boats; b++) {
                if (night.afloat(b)) {
                    int lack = lacks(b);
                    if (best == NONE || lack < least) {
                        best = b;
                        least = lack;
                    }
                }
            }
            return best;
        }
    }

    /** The BOATS and what goes with the HOURS: all that an HOUR changes, with how many lines THE BOOK has. */
    private static final class Night {
        final int[] straw = new int[BOATS];
        final int[] kind = new int[BOATS];
        final int[] reach = new int[BOATS];
        final int[] left = new int[BOATS];
        final int[] right = new int[BOATS];
        final int[] turned = new int[BOATS];
        final int[] lost = new int[BOATS];
        final int[] archers = new int[REACHES];
        int boats;
        int draws;
        int alarm;
        int fog;
        int drums;
        int fire;
        int hour;
        int arrows;
        int written;

        Night() {
            for (int r = 0; r < REACHES; r++) {
                archers[r] = 10;
            }
            fog = 5;
            drums = 3;
        }

        void become(Night o) {
            copy(o.straw, straw);
            copy(o.kind, kind);
            copy(o.reach, reach);
            copy(o.left, left);
            copy(o.right, right);
            copy(o.turned, turned);
            copy(o.lost, lost);
            copy(o.archers, archers);
            boats = o.boats;
            draws = o.draws;
            alarm = o.alarm;
            fog = o.fog;
            drums = o.drums;
            fire = o.fire;
            hour = o.hour;
            arrows = o.arrows;
            written = o.written;
        }

        int launch(int ofStraw, int ofKind, int at) {
            int b = boats;
            if (!within(b, 0, BOATS - 1)) {
                return NONE;
            }
            straw[b] = ofStraw;
            kind[b] = ofKind;
            reach[b] = at;
            left[b] = 0;
            right[b] = 0;
            turned[b] = 0;
            lost[b] = 0;
            boats++;
            return b;
        }

        boolean tell(int what, int who, int v) {
            if (v < 0 || v > most(what, who)) {
                return false;
            }
            switch (what) {
                case 0: fog = v; break;
                case 1: drums = v; break;
                case 2: alarm = v; break;
                case 3: fire = v; break;
                case 4: archers[who] = v; break;
                case 5: left[who] = v; break;
                default: right[who] = v; break;
            }
            return true;
        }

        /** The most that can be told of it; NONE if nothing can. */
        private int most(int what, int who) {
            switch (what) {
                case 0: return THICKEST;
                case 1: return 9;
                case 2: return LOUDEST;
                case 3: return 1000;
                case 4: return within(who, 0, REACHES - 1) ? 99 : NONE;
                case 5:
                case 6: return has(who) ? SIDE : NONE;
                default: return NONE;
            }
        }

        boolean has(int b) {
            return b >= 0 && b < boats;
        }

        boolean afloat(int b) {
            return has(b) && lost[b] == 0;
        }

        int stuckIn(int b) {
            return left[b] + right[b];
        }

        int lean(int b) {
            return left[b] > right[b] ? left[b] - right[b] : right[b] - left[b];
        }

        int stickIn(int b, int come) {
            int side = turned[b] == 0 ? right[b] : left[b];
            // Those that the side has no more room for do not stick: each arrow of THE BOOK is on board.
            int stuck = Math.min(come, SIDE - side);
            if (turned[b] == 0) {
                right[b] = side + stuck;
            } else {
                left[b] = side + stuck;
            }
            return stuck;
        }

        int takeOff(int b) {
            int all = stuckIn(b);
            left[b] = 0;
            right[b] = 0;
            return all;
        }

        void drift(int by) {
            for (int b = 0; b < boats; b++) {
                if (afloat(b)) {
                    reach[b] = Math.max(0, Math.min(REACHES - 1, reach[b] + by));
                }
            }
        }

        private int draw(int m) {
            draws = draws * 1664525 + 1013904223;
            return m < 1 ? 0 : (draws >>> 8) % m;
        }

        boolean burns() {
            return fire > 0 && alarm >= 50 && draw(1000) < fire;
        }

        void fogMoves() {
            int drawn = draw(4);
            if (drawn == 0) {
                fog = Math.max(0, fog - 1);
            } else if (drawn == 1) {
                fog = Math.min(THICKEST, fog + 1);
            }
        }

        int allLost() {
            int set = 0;
            for (int b = 0; b < boats; b++) {
                if (!afloat(b)) {
                    set |= 1 << b;
                }
            }
            return set;
        }

        int howManyLost() {
            return Integer.bitCount(allLost());
        }

        int had() {
            int all = arrows;
            for (int b = 0; b < boats; b++) {
                if (afloat(b)) {
                    all += stuckIn(b);
                }
            }
            return all;
        }

        int boatsAt(int r) {
            int many = 0;
            for (int b = 0; b < boats; b++) {
                if (afloat(b) && reach[b] == r) {
                    many++;
                }
            }
            return many;
        }

        int fullestReach() {
            int best = NONE;
            int most = 0;
            for (int r = 0; r < REACHES; r++) {
                int many = boatsAt(r);
                if (many > most) {
                    best = r;
                    most = many;
                }
            }
            return best;
        }

        int archersNear() {
            int all = 0;
            for (int r = 0; r < REACHES; r++) {
                if (boatsAt(r) > 0) {
                    all += archers[r];
                }
            }
            return all;
        }

        /**
         * The first taking that leaves a lost GAME: rests by one more than may be taken, each bit of which stands an
         * even number of times. One may also take so that a rest grows: so all takings are tried.
         */
        int takesWell(int what) {
            int most = drums + 1;
            int round = Math.max(2, most + 1);
            int odd = 0;
            for (int b = 0; b < boats; b++) {
                if (afloat(b)) {
                    odd ^= lean(b) % round;
                }
            }
            for (int b = 0; b < boats; b++) {
                int heap = afloat(b) ? lean(b) : 0;
                int due = odd ^ (heap % round);
                for (int k = 1; k <= most && k <= heap; k++) {
                    if ((heap - k) % round == due) {
                        return what == 0 ? b : k;
                    }
                }
            }
            return NONE;
        }
    }

    /** THE LAW. A line's E stands in the codes from the end of the line ahead to its middle, its B from there on. */
    private static final class Law {
        final int[] word = new int[LINES];
        final int[] middle = new int[LINES];
        final int[] end = new int[LINES];
        final int[] codes = new int[TAPE];
        int lines;
        int size;
        // What is asked of a BOAT, by the numbers of the KEYWORDS.
        private final int[] seen = new int[SEEN];
        private final int[] stack = new int[32];

        void become(Law o) {
            copy(o.word, word);
            copy(o.middle, middle);
            copy(o.end, end);
            copy(o.codes, codes);
            lines = o.lines;
            size = o.size;
        }

        void put(int code) {
            if (size < codes.length) {
                codes[size] = code;
                size++;
            }
        }

        void closeLine(int of, int atMiddle) {
            if (lines < LINES) {
                word[lines] = of;
                middle[lines] = atMiddle;
                end[lines] = size;
                lines++;
            }
        }

        /** What THE LAW tells for a word of a BOAT; with NONE of no BOAT. */
        int tells(int of, Night n, int b) {
            see(n, b);
            int said = unsaid(of);
            int from = 0;
            for (int i = 0; i < lines; i++) {
                if (word[i] == of && (middle[i] == end[i] || value(middle[i], end[i]) != 0)) {
                    said = value(from, middle[i]);
                    break;
                }
                from = end[i];
            }
            switch (of) {
                case STICK: return held(said, 0, 100);
                case LIST: return held(said, 1, 999);
                default: return held(said, 0, 99);
            }
        }

        private static int held(int v, int least, int greatest) {
            return Math.max(least, Math.min(greatest, v));
        }

        private void see(Night n, int b) {
            boolean there = n.has(b);
            seen[FOG] = n.fog;
            seen[DRUMS] = n.drums;
            seen[ALARM] = n.alarm;
            seen[HOUR] = n.hour % DAY;
            int r = there ? n.reach[b] : 0;
            seen[ARCHERS] = there && within(r, 0, REACHES - 1) ? n.archers[r] : 0;
            seen[STRAW] = there ? n.straw[b] : 0;
            seen[KIND] = there ? n.kind[b] : 0;
            seen[REACH] = r;
            seen[ARROWS] = there ? n.stuckIn(b) : 0;
            seen[LEAN] = there ? n.lean(b) : 0;
        }

        private int unsaid(int of) {
            switch (of) {
                case SHOT: return seen[ARCHERS] - 2 * seen[FOG];
                case STICK: return 40 + seen[STRAW];
                case LIST: return 10 * seen[STRAW];
                default: return 5;
            }
        }

        private int value(int from, int to) {
            int top = 0;
            stack[0] = 0;
            for (int i = from; i < to && i < codes.length; i++) {
                int code = codes[i];
                if (code < OPERATOR) {
                    if (top < stack.length) {
                        stack[top] = code < ASKED ? code : asked(code - ASKED);
                        top++;
                    }
                } else if (code == OPERATOR + NOT) {
                    if (top > 0) {
                        stack[top - 1] = 1 - stack[top - 1];
                    }
                } else if (top > 1) {
                    top--;
                    stack[top - 1] = joined(code - OPERATOR, stack[top - 1], stack[top]);
                }
            }
            return stack[0];
        }

        private int asked(int k) {
            return k >= 0 && k < SEEN ? seen[k] : 0;
        }

        private static int joined(int operator, int a, int b) {
            switch (operator) {
                case '+': return a + b;
                case '-': return a - b;
                case '*': return a * b;
                case '/': return b == 0 ? 0 : a / b;
                case '<': return a < b ? 1 : 0;
                case '=': return a == b ? 1 : 0;
                case '>': return a > b ? 1 : 0;
                case OR: return a | b;
                default: return a & b;
            }
        }
    }

    /** CURRENTS: how far each goes, ebb below 0. */
    private static final class Currents {
        final int[] hours = new int[LINES];
        final int[] far = new int[LINES];
        int lines;

        void become(Currents o) {
            copy(o.hours, hours);
            copy(o.far, far);
            lines = o.lines;
        }

        void enter(int hour, int by) {
            if (lines < LINES) {
                hours[lines] = hour;
                far[lines] = by;
                lines++;
            }
        }

        int goesAt(int hour) {
            int line = latest(hour);
            if (line == NONE) {
                line = latest(DAY);
            }
            return line == NONE ? 0 : far[line];
        }

        private int latest(int hour) {
            int best = NONE;
            for (int i = 0; i < lines; i++) {
                if (hours[i] <= hour && (best == NONE || hours[i] >= hours[best])) {
                    best = i;
                }
            }
            return best;
        }
    }

    /** A PLAN: what is done is told by the number of its KEYWORD. */
    private static final class Plan {
        final int[] hours = new int[LINES];
        final int[] acts = new int[LINES];
        final int[] boats = new int[LINES];
        final int[] values = new int[LINES];
        int lines;

        void become(Plan o) {
            copy(o.hours, hours);
            copy(o.acts, acts);
            copy(o.boats, boats);
            copy(o.values, values);
            lines = o.lines;
        }

        void enter(int hour, int act, int boat, int value) {
            if (lines < LINES) {
                hours[lines] = hour;
                acts[lines] = act;
                boats[lines] = boat;
                values[lines] = value;
                lines++;
            }
        }
    }

    /** VILLAGES: one that was not told has no straw. */
    private static final class Villages {
        final int[] straw = new int[VILLAGES];
        final int[] friends = new int[VILLAGES];
        private final int[] says = new int[VILLAGES];
        int lines;

        void become(Villages o) {
            copy(o.straw, straw);
            copy(o.friends, friends);
            copy(o.says, says);
            lines = o.lines;
        }

        void clear() {
            for (int v = 0; v < VILLAGES; v++) {
                straw[v] = 0;
                friends[v] = 0;
                says[v] = 0;
            }
            lines = 0;
        }

        void enter(int v, int ofStraw, int with) {
            if (!within(v, 0, VILLAGES - 1)) {
                return;
            }
            straw[v] = ofStraw;
            says[v] = with;
            lines++;
            for (int w = 0; w < VILLAGES; w++) {
                if (isTold(w) && ((with >> w | says[w] >> v) & 1) == 1) {
                    friends[v] |= 1 << w;
                    friends[w] |= 1 << v;
                }
            }
        }

        boolean isTold(int v) {
            return within(v, 0, VILLAGES - 1) && straw[v] > 0;
        }

        boolean talk(int a, int b) {
            return isTold(a) && isTold(b) && (friends[a] >> b & 1) == 1;
        }

        int fewestWith(int s) {
            int best = NONE;
            int told = allTold();
            for (int set = 1; set < 1 << VILLAGES; set++) {
                boolean fewer = best == NONE || Integer.bitCount(set) < Integer.bitCount(best);
                if (fewer && (set & ~told) == 0 && strawOf(set) >= s && isQuiet(set)) {
                    best = set;
                }
            }
            return best;
        }

        private int allTold() {
            int set = 0;
            for (int v = 0; v < VILLAGES; v++) {
                if (isTold(v)) {
                    set |= 1 << v;
                }
            }
            return set;
        }

        private int strawOf(int set) {
            int all = 0;
            for (int v = 0; v < VILLAGES; v++) {
                if ((set >> v & 1) == 1) {
                    all += straw[v];
                }
            }
            return all;
        }

        private boolean isQuiet(int set) {
            for (int v = 0; v < VILLAGES; v++) {
                if ((set >> v & 1) == 1 && (friends[v] & set) != 0) {
                    return false;
                }
            }
            return true;
        }

        /** All to whom talk goes on from v while those of a set are silent. */
        int hearing(int v, int silent) {
            int all = 1 << v;
            int asked = 0;
            for (int i = 0; i < VILLAGES && asked != all; i++) {
                int next = all;
                for (int w = 0; w < VILLAGES; w++) {
                    if ((all >> w & 1) == 1 && (asked >> w & 1) == 0) {
                        next |= friends[w] & ~silent;
                    }
                }
                asked = all;
                all = next;
            }
            return all;
        }

        int fewestSilent(int a, int b) {
            int best = VILLAGES;
            int others = allTold() & ~(1 << a | 1 << b);
            for (int set = 0; set < 1 << VILLAGES; set++) {
                if ((set & ~others) == 0 && Integer.bitCount(set) < best && (hearing(a, set) >> b & 1) == 0) {
                    best = Integer.bitCount(set);
                }
            }
            return best;
        }
    }

    /** COUNT: what was told of a number, as its modulus (0: below, 1: at least) and the rest. */
    private static final class Clues {
        private final int[] moduli = new int[THINGS];
        private final int[] values = new int[THINGS];
        private final int[] fit = new int[NUMBERS];
        private final int[] rests = new int[MODULI];
        int things;

        void become(Clues o) {
            copy(o.moduli, moduli);
            copy(o.values, values);
            things = o.things;
        }

        int take(int m, int r) {
            int most = m < 2 ? NUMBERS : m - 1;
            if (!within(m, 0, MODULI) || !within(r, 0, most) || things >= THINGS) {
                return NONE;
            }
            moduli[things] = m;
            values[things] = r;
            things++;
            return things;
        }

        private boolean allows(int x, int i) {
            int m = moduli[i];
            if (m < 2) {
                return m == 0 ? x < values[i] : x >= values[i];
            }
            return x % m == values[i];
        }

        int fitting() {
            int many = 0;
            for (int x = 0; x < NUMBERS; x++) {
                boolean all = true;
                for (int i = 0; i < things && all; i++) {
                    all = allows(x, i);
                }
                if (all) {
                    fit[many] = x;
                    many++;
                }
            }
            return many;
        }

        int least() {
            return fitting() > 0 ? fit[0] : NONE;
        }

        int greatest() {
            int many = fitting();
            return many > 0 ? fit[many - 1] : NONE;
        }

        int bestToAsk() {
            int many = fitting();
            int best = NONE;
            int least = many;
            for (int m = 2; m <= MODULI && many > 1; m++) {
                int most = mostAlike(m, many);
                if (best == NONE || most < least) {
                    best = m;
                    least = most;
                }
            }
            return best;
        }

        private int mostAlike(int m, int many) {
            int most = 0;
            for (int r = 0; r < m && r < MODULI; r++) {
                rests[r] = 0;
            }
            for (int i = 0; i < many && i < NUMBERS; i++) {
                int r = m > 0 ? fit[i] % m : 0;
                if (within(r, 0, MODULI - 1)) {
                    rests[r]++;
                    most = Math.max(most, rests[r]);
                }
            }
            return most;
        }
    }

    /** What was told of BANK and of MARKS. */
    private static final class Ledger {
        final int[] costs = new int[4];
        private final int[] marks = new int[OWNERS];
        int owners;

        void become(Ledger o) {
            copy(o.costs, costs);
            copy(o.marks, marks);
            owners = o.owners;
        }

        int enter(int n) {
            if (!within(n, 1, 999) || !within(owners, 0, OWNERS - 1)) {
                return NONE;
            }
            marks[owners] = n;
            owners++;
            return owners;
        }

        int dearer(int p) {
            int shooting = p * costs[3] + (1000 - p) * costs[1];
            int waiting = p * costs[2] + (1000 - p) * costs[0];
            return Math.max(shooting, waiting);
        }

        int cheapest() {
            int best = 0;
            for (int p = 1; p <= 1000; p++) {
                if (dearer(p) < dearer(best)) {
                    best = p;
                }
            }
            return best;
        }

        int part(int n, int owner) {
            int all = 0;
            for (int i = 0; i < owners; i++) {
                all += marks[i];
            }
            if (all < 1) {
                return 0;
            }
            int left = n;
            int ahead = 0;
            int rest = n * marks[owner] % all;
            for (int i = 0; i < owners; i++) {
                int other = n * marks[i] % all;
                left -= n * marks[i] / all;
                if (other > rest || (other == rest && i < owner)) {
                    ahead++;
                }
            }
            return n * marks[owner] / all + (ahead < left ? 1 : 0);
        }
    }

    /** What can be undone: a ring of nights, the latest last. */
    private static final class Past {
        private final Night[] nights = new Night[KEPT];
        private int first;
        int kept;

        Past() {
            for (int i = 0; i < KEPT; i++) {
                nights[i] = new Night();
            }
        }

        void keep(Night n) {
            if (kept == KEPT) {
                first = (first + 1) % KEPT;
                kept--;
            }
            nights[(first + kept) % KEPT].become(n);
            kept++;
        }

        void forget() {
            kept = 0;
        }

        boolean bringBack(Night n) {
            if (kept < 1) {
                return false;
            }
            kept--;
            n.become(nights[(first + kept) % KEPT]);
            return true;
        }
    }

    /** IN THOUGHT: nights that stand for the real one. */
    private static final class Thought {
        private final Night[] nights = new Night[TURNS + 1];
        private int[] chances = new int[THICKEST + 1];
        private int[] next = new int[THICKEST + 1];

        Thought() {
            for (int i = 0; i <= TURNS; i++) {
                nights[i] = new Night();
            }
        }

        private Night begin(World world) {
            nights[0].become(world.night);
            return nights[0];
        }

        Night behind(World world, int n) {
            Night t = begin(world);
            for (int i = 0; i < n; i++) {
                world.pass(t, false);
            }
            return t;
        }

        int lostBehind(World world, int boat) {
            Night t = begin(world);
            for (int i = 1; i <= FAR; i++) {
                world.pass(t, false);
                if (!t.afloat(boat)) {
                    return i;
                }
            }
            return NONE;
        }

        int hadBehind(World world, int m) {
            Night t = begin(world);
            for (int i = 0; i <= FAR; i++) {
                if (t.had() >= m) {
                    return i;
                }
                world.pass(t, false);
            }
            return NONE;
        }

        /**
         * All rows of turns, each as the one ahead but for its last HOURS: the first HOUR is the highest bit of the
         * row, so that the nights up to the first HOUR that is another one need not be gone through again.
         */
        int bestTurns(World world, int boat, int n, int what) {
            begin(world);
            int most = NONE;
            int best = NONE;
            for (int row = 0; row < 1 << n; row++) {
                int alike = row == 0 ? 0 : n - 1 - Integer.bitCount((row & -row) - 1);
                for (int i = alike; i < n && i < TURNS; i++) {
                    Night t = nights[i + 1];
                    t.become(nights[i]);
                    if ((row >> (n - 1 - i) & 1) == 1) {
                        world.turnAbout(t, boat, false);
                    }
                    world.pass(t, false);
                }
                int set = mirrored(row, n);
                int has = nights[n].afloat(boat) ? nights[n].stuckIn(boat) : NONE;
                if (has > most || (has == most && set < best)) {
                    most = has;
                    best = set;
                }
            }
            if (most == NONE) {
                return NONE;
            }
            return what == 0 ? most : best;
        }

        private static int mirrored(int row, int n) {
            int set = 0;
            for (int i = 0; i < n; i++) {
                set |= (row >> i & 1) << (n - 1 - i);
            }
            return set;
        }

        int bestReach(World world, int n) {
            int best = 0;
            int fewest = 0;
            int most = 0;
            for (int r = 0; r < REACHES; r++) {
                Night t = begin(world);
                for (int b = 0; b < t.boats; b++) {
                    if (t.afloat(b)) {
                        world.bringTo(t, b, r, false);
                    }
                }
                for (int i = 0; i < n; i++) {
                    world.pass(t, false);
                }
                int lost = t.howManyLost();
                int had = t.had();
                if (r == 0 || lost < fewest || (lost == fewest && had > most)) {
                    best = r;
                    fewest = lost;
                    most = had;
                }
            }
            return best;
        }

        int likely(int fog, int f, int n) {
            for (int i = 0; i <= THICKEST; i++) {
                chances[i] = i == fog ? MILLION : 0;
            }
            for (int h = 0; h < n; h++) {
                spread();
            }
            int all = 0;
            for (int i = f; i <= THICKEST; i++) {
                all += chances[i];
            }
            return all;
        }

        private void spread() {
            for (int i = 0; i <= THICKEST; i++) {
                next[i] = 0;
            }
            for (int i = 0; i <= THICKEST; i++) {
                int quarter = chances[i] / 4;
                next[Math.max(0, i - 1)] += quarter;
                next[Math.min(THICKEST, i + 1)] += quarter;
                next[i] += chances[i] - 2 * quarter;
            }
            int[] was = chances;
            chances = next;
            next = was;
        }
    }

    /** The TAPE, its TOKENS, and the text that was read last with its FAULT. */
    private static final class Reader {
        final Law law = new Law();
        final Currents currents = new Currents();
        final Plan plan = new Plan();
        final Villages villages = new Villages();
        int length;
        int fault;
        int faultAt = NONE;
        private final int[] tape = new int[TAPE];
        private final int[] tokens = new int[TAPE + 1];
        private final int[] values = new int[TAPE + 1];
        private final int[] places = new int[TAPE + 1];
        private int many;
        private int at;
        private int number;
        // What waits in a B till its parts are had, by its rank: an open (, or, and, not.
        private final int[] waiting = new int[32];
        private int top;
        private int open;
        private int brackets;

        void take(int four) {
            for (int shift = 24; shift >= 0; shift -= 8) {
                if (length < TAPE) {
                    tape[length] = four >>> shift & 255;
                    length++;
                }
            }
        }

        /** Reads the TAPE, which is empty then, as TEXT k. */
        boolean reads(int k, int boats) {
            fault = 0;
            faultAt = NONE;
            cut();
            length = 0;
            if (!within(k, 0, 3)) {
                return false;
            }
            law.lines = 0;
            law.size = 0;
            currents.lines = 0;
            plan.lines = 0;
            villages.clear();
            for (int i = 0; i < many && next() != END; i++) {
                boolean good;
                switch (k) {
                    case 0: good = lawLine(); break;
                    case 1: good = currentLine(); break;
                    case 2: good = planLine(boats); break;
                    default: good = villageLine(); break;
                }
                if (!good) {
                    return false;
                }
            }
            return true;
        }

        /** Cuts the TAPE into TOKENS. */
        private void cut() {
            many = 0;
            at = 0;
            int end = 0;
            for (int i = 0; i < length; i = Math.max(i + 1, end)) {
                int c = tape[i];
                end = i + 1;
                if (isLetter(c)) {
                    end = endOfLetters(end);
                    note(keyword(i, end), 0, i);
                } else if (isDigit(c)) {
                    end = endOfDigits(end);
                    note(end - i > 4 ? NO_TOKEN : NUMBER, valueOf(i, end), i);
                } else if (c != ' ' && c != 10) {
                    note(SIGNS.indexOf((char) c) >= 0 ? c : NO_TOKEN, 0, i);
                }
            }
            note(END, 0, length);
        }

        private static boolean isLetter(int c) {
            return within(c, 'a', 'z') || within(c, 'A', 'Z');
        }

        private static boolean isDigit(int c) {
            return within(c, '0', '9');
        }

        private int endOfLetters(int from) {
            int end = from;
            while (end < length && isLetter(tape[end])) {
                end++;
            }
            return end;
        }

        private int endOfDigits(int from) {
            int end = from;
            while (end < length && isDigit(tape[end])) {
                end++;
            }
            return end;
        }

        private int valueOf(int from, int end) {
            int value = 0;
            for (int i = from; i < end && i < from + 4; i++) {
                value = value * 10 + tape[i] - '0';
            }
            return value;
        }

        private int keyword(int from, int end) {
            int word = 0;
            int i = from;
            boolean same = true;
            for (int j = 0; j < WORDS.length(); j++) {
                int c = WORDS.charAt(j);
                if (c == ' ') {
                    if (same && i == end) {
                        return word;
                    }
                    word++;
                    i = from;
                    same = true;
                } else {
                    same = same && i < end && tape[i] == c;
                    i++;
                }
            }
            return NO_TOKEN;
        }

        private void note(int token, int value, int place) {
            if (many < tokens.length) {
                tokens[many] = token;
                values[many] = value;
                places[many] = place;
                many++;
            }
        }

        private int next() {
            return at >= 0 && at < many ? tokens[at] : END;
        }

        private boolean refuse(int why) {
            fault = why;
            faultAt = at >= 0 && at < many ? places[at] : 0;
            return false;
        }

        private boolean passes(int token) {
            if (next() != token) {
                return refuse(CANT_STAND);
            }
            at++;
            return true;
        }

        /** The KEYWORD with which a line begins, if there may be one more line. */
        private boolean begins(int token, int lines) {
            if (next() != token) {
                return refuse(CANT_STAND);
            }
            if (lines >= LINES) {
                return refuse(TOO_MANY);
            }
            at++;
            return true;
        }

        private boolean passesNumber(int least, int greatest) {
            if (next() != NUMBER) {
                return refuse(CANT_STAND);
            }
            number = values[at];
            if (!within(number, least, greatest)) {
                return refuse(BEYOND);
            }
            at++;
            return true;
        }

        private boolean lawLine() {
            int word = next();
            if (!within(word, SHOT, FADE)) {
                return refuse(CANT_STAND);
            }
            if (!begins(word, law.lines) || !sum()) {
                return false;
            }
            int middle = law.size;
            if (next() == WHEN) {
                at++;
                if (!condition()) {
                    return false;
                }
            }
            if (!passes(';')) {
                return false;
            }
            law.closeLine(word, middle);
            return true;
        }

        /** An E: a + or - waits till the T behind it is whole. */
        private boolean sum() {
            int sign = 0;
            if (!factor()) {
                return false;
            }
            for (int i = 0; i < many; i++) {
                int token = next();
                if (token == '*') {
                    at++;
                    if (!factor()) {
                        return false;
                    }
                    law.put(OPERATOR + '*');
                } else if (token == '/') {
                    at++;
                    if (!passesNumber(1, 9999)) {
                        return false;
                    }
                    law.put(number);
                    law.put(OPERATOR + '/');
                } else {
                    if (sign != 0) {
                        law.put(OPERATOR + sign);
                    }
                    if (token != '+' && token != '-') {
                        return true;
                    }
                    sign = token;
                    at++;
                    if (!factor()) {
                        return false;
                    }
                }
            }
            return refuse(CANT_STAND);
        }

        private boolean factor() {
            int token = next();
            if (token == NUMBER) {
                law.put(values[at]);
            } else if (within(token, 0, SEEN - 1)) {
                law.put(ASKED + token);
            } else {
                return refuse(CANT_STAND);
            }
            at++;
            return true;
        }

        /** A B; each round takes a C E (< | = | >) E with the ( and not ahead of it and the ) behind it. */
        private boolean condition() {
            top = 0;
            open = 0;
            brackets = 0;
            for (int i = 0; i < many; i++) {
                if (!opens()) {
                    return false;
                }
                if (!sum()) {
                    return false;
                }
                int relation = next();
                if (relation != '<' && relation != '=' && relation != '>') {
                    return refuse(CANT_STAND);
                }
                at++;
                if (!sum()) {
                    return false;
                }
                law.put(OPERATOR + relation);
                closes();
                int joint = next();
                if (joint != AND && joint != OR) {
                    settle(OR);
                    return brackets == 0 || refuse(CANT_STAND);
                }
                settle(joint);
                hold(joint);
                at++;
            }
            return refuse(CANT_STAND);
        }

        private boolean opens() {
            for (int i = 0; i < many && (next() == NOT || next() == '('); i++) {
                if (open >= NEST) {
                    return refuse(TOO_MANY);
                }
                open++;
                if (next() == '(') {
                    brackets++;
                }
                hold(next());
                at++;
            }
            return true;
        }

        private void closes() {
            settle(NOT);
            for (int i = 0; i < many && next() == ')' && brackets > 0; i++) {
                settle(OR);
                top--;
                open--;
                brackets--;
                at++;
                settle(NOT);
            }
        }

        private void hold(int token) {
            if (top < waiting.length) {
                waiting[top] = token;
                top++;
            }
        }

        /** What binds as strongly as the token, or more so, has its parts. */
        private void settle(int token) {
            for (int i = top; i > 0 && waiting[i - 1] != '(' && waiting[i - 1] >= token; i--) {
                law.put(OPERATOR + waiting[i - 1]);
                if (waiting[i - 1] == NOT) {
                    open--;
                }
                top--;
            }
        }

        private boolean currentLine() {
            if (!begins(HOUR, currents.lines) || !passesNumber(0, DAY - 1)) {
                return false;
            }
            int hour = number;
            int way = next();
            if (way != DRIFT && way != EBB) {
                return refuse(CANT_STAND);
            }
            at++;
            if (!passesNumber(0, 5)) {
                return false;
            }
            int far = number;
            if (!passes(';')) {
                return false;
            }
            currents.enter(hour, way == DRIFT ? far : -far);
            return true;
        }

        private boolean planLine(int boats) {
            if (!begins(AT, plan.lines) || !passesNumber(0, 999)) {
                return false;
            }
            int hour = number;
            int act = next();
            if (act != DRUMS && !within(act, TURN, MOVE)) {
                return refuse(CANT_STAND);
            }
            at++;
            int boat = NONE;
            if (act != DRUMS) {
                if (!passesNumber(0, boats - 1)) {
                    return false;
                }
                boat = number;
            }
            if (act == DRUMS && !passesNumber(0, 9)) {
                return false;
            }
            if (act == MOVE && !(passes(TO) && passesNumber(0, REACHES - 1))) {
                return false;
            }
            int value = number;
            if (!passes(';')) {
                return false;
            }
            plan.enter(hour, act, boat, value);
            return true;
        }

        private boolean villageLine() {
            if (!begins(VILLAGE, villages.lines) || !passesNumber(0, VILLAGES - 1)) {
                return false;
            }
            int village = number;
            if (villages.isTold(village)) {
                at--;
                return refuse(BEYOND);
            }
            if (!passes(STRAW) || !passesNumber(1, 99)) {
                return false;
            }
            int straw = number;
            int with = 0;
            int joint = TALKS;
            for (int i = 0; i < many && next() == joint; i++) {
                at++;
                if (!passesNumber(0, VILLAGES - 1)) {
                    return false;
                }
                if (number == village) {
                    at--;
                    return refuse(BEYOND);
                }
                with |= 1 << number;
                joint = AND;
            }
            if (!passes(';')) {
                return false;
            }
            villages.enter(village, straw, with);
            return true;
        }
    }
}
