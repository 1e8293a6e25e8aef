/** A test for each sentence of "Terms", "1. THE RIVER", "3. AN HOUR" and promises 1 to 8, 13, 14, 16 that names a bound. */
public final class FogArrowsRiverEdges extends Checks {
    // What is behind these STATEs of draws: their highest 24 bits are 0 and 1.
    private static final int DRAWS_0 = 122584096;
    private static final int DRAWS_1 = 103732453;

    private static FogArrows ten() {
        FogArrows x = new FogArrows();
        for (int i = 0; i < 10; i++) {
            x.boat(1 + i, 2, i);
        }
        return x;
    }

    private static void atFirst() {
        about("1: what is at first");
        FogArrows x = new FogArrows();
        int[] looks = {0, 0, 5, 3, 0, 0, 0, 0, 0, 0, 0, 0, 0, 0, 0, 0, 0};
        for (int i = 0; i < 17; i++) {
            is("look " + i, x.look(i), looks[i]);
        }
        for (int r = 0; r < 16; r++) {
            is("ARCHERS of " + r, x.river(r, 0), 10);
        }
        for (int h = 0; h < 24; h++) {
            is("the current at " + h, x.river(h, 1), 0);
        }
        for (int v = 0; v < 12; v++) {
            none("VILLAGE " + v, x.village(v, 0), x.village(v, 1));
        }
        none("no BOAT, no line of THE BOOK", x.of(0, 0), x.book(0, 0));
        refused("nothing to be undone, no IMAGE", x.undo(), x.image(false));
        is("fault(0)", x.fault(0), 0);
        is("fault(1)", x.fault(1), NONE);
        is("the TAPE is empty", x.feed(0, 0, 0, 0, 0), 20);
        is("one object is not the other one", new FogArrows().feed(0, 0, 0, 0, 0), 20);
    }

    private static void draws() {
        about("Terms: STATE is an int, 0 at first");
        FogArrows x = new FogArrows();
        is("at first", x.state(MIN), 0);
        is("the least", x.state(MAX), MIN);
        is("the greatest", x.state(-1), MAX);
        is("look 9", x.look(9), -1);
        about("Terms: of a DRAW, 1664525 times itself + 1013904223 wraps");
        int[][] next = {{0, 1013904223}, {1013904223, 1196435762}, {MAX, -1135243950}, {MIN, -1133579425},
            {-1, 1012239698}};
        for (int[] n : next) {
            FogArrows y = new FogArrows();
            y.state(n[0]);
            y.hours(1);
            is("behind " + n[0], y.look(9), n[1]);
        }
        about("Terms: a DRAW is its highest 24 bits (without sign) modulo m");
        // they become 255, 256, 512, 768, 1023, 1024, -1, the least and the greatest int
        int[][] fogs = {{DRAWS_0, 4}, {DRAWS_1, 6}, {-427320859, 5}, {-958374171, 5}, {-1470575840, 5},
            {-1489427483, 4}, {653637408, 5}, {-1512697883, 4}, {-1493846240, 5}};
        for (int[] f : fogs) {
            FogArrows y = new FogArrows();
            y.state(f[0]);
            y.hours(1);
            is("FOG by " + f[0], y.look(2), f[1]);
        }
        // -256, -1, the least and the greatest int, 255, 256, 256000, 255744
        int[][] fires = {{1165839077, 215}, {653637408, 215}, {-1512697883, 608}, {-1493846240, 607}, {DRAWS_0, 0},
            {DRAWS_1, 1}, {-2137548827, 0}, {-1606495515, 999}};
        for (int[] f : fires) {
            is("FIRE as great as the DRAW of " + f[0], lostBy(f[0], f[1], 99), 0);
            is("FIRE above the DRAW of " + f[0], lostBy(f[0], f[1] + 1, 99), 2);
        }
    }

    /** How a BOAT is LOST by a DRAW, FIRE, and the ALARM as it is behind the DRUMS. */
    private static int lostBy(int state, int fire, int alarm) {
        FogArrows x = with(40, 0, 3);
        x.state(state);
        x.set(1, 0, 0);
        x.set(2, 0, alarm);
        x.set(3, 0, fire);
        x.hours(1);
        return x.of(0, 6);
    }

    private static void boats() {
        about("1: STRAW 1 .. 40, KIND 0 .. 2, REACH 0 .. 15");
        FogArrows x = new FogArrows();
        none("STRAW", x.boat(0, 0, 0), x.boat(41, 0, 0), x.boat(-1, 0, 0), x.boat(MAX, 0, 0), x.boat(MIN, 0, 0));
        none("KIND", x.boat(1, -1, 0), x.boat(1, 3, 0), x.boat(1, MAX, 0), x.boat(1, MIN, 0));
        none("REACH", x.boat(1, 0, -1), x.boat(1, 0, 16), x.boat(1, 0, MAX), x.boat(1, 0, MIN));
        is("BOATS", x.look(0), 0);
        int[][] good = {{1, 0, 0}, {40, 0, 0}, {1, 1, 0}, {1, 2, 0}, {1, 0, 15}, {40, 2, 15}, {2, 1, 1}, {39, 1, 14},
            {20, 0, 7}, {21, 2, 8}};
        for (int i = 0; i < 10; i++) {
            about("Promise 3: the number, 0 .. 9 as they come");
            is("boat", x.boat(good[i][0], good[i][1], good[i][2]), i);
            row("of " + i, new int[] {x.of(i, 0), x.of(i, 1), x.of(i, 2)}, good[i]);
            about("1: LEFT, RIGHT, TURNED, LOST 0 at first");
            each("of " + i, 0, x.of(i, 3), x.of(i, 4), x.of(i, 5), x.of(i, 6));
        }
        about("Promise 3: NONE if there are ten");
        x.turn(9);
        int[] before = seen(x);
        none("the eleventh", x.boat(1, 0, 0), x.boat(40, 2, 15), x.boat(0, 0, 0));
        row("nothing is done", seen(x), before);
        is("ten", x.look(0), 10);
        none("no BOAT 10", x.of(10, 0));
        about("3: ten that are LOST are ten");
        FogArrows y = new FogArrows();
        for (int i = 0; i < 10; i++) {
            y.boat(1, 2, 0);
            y.set(5, i, 11);
        }
        y.hours(1);
        is("all are LOST", y.look(7), 1023);
        none("the eleventh", y.boat(1, 2, 0));
    }

    private static int told(FogArrows x, int what, int who) {
        switch (what) {
            case 4: return x.river(who, 0);
            case 5: return x.of(who, 3);
            case 6: return x.of(who, 4);
            default: return x.look(what + 2);
        }
    }

    private static void sets() {
        int[] most = {9, 9, 99, 1000, 99, 999, 999};
        String[] names = {"FOG", "DRUMS", "ALARM", "FIRE", "ARCHERS", "LEFT", "RIGHT"};
        for (int what = 0; what < 7; what++) {
            about("1, promise 4: " + names[what] + " 0 .. " + most[what]);
            FogArrows x = ten();
            int last = what == 4 ? 15 : 9;
            for (int who = 0; who <= last; who += last) {
                yes("the most", x.set(what, who, most[what]));
                refused("beyond it", x.set(what, who, most[what] + 1), x.set(what, who, -1), x.set(what, who, MAX),
                    x.set(what, who, MIN));
                is("it stays", told(x, what, who), most[what]);
                yes("0", x.set(what, who, 0));
                refused("beyond it", x.set(what, who, -1), x.set(what, who, most[what] + 1));
                is("it stays", told(x, what, who), 0);
                yes("1", x.set(what, who, 1));
                is("1", told(x, what, who), 1);
            }
        }
        about("Promise 4: what 0 .. 3, who not asked");
        FogArrows x = ten();
        for (int what = 0; what < 4; what++) {
            yes("who is the least", x.set(what, MIN, 2));
            yes("who is the greatest", x.set(what, MAX, 3));
            yes("who is 16", x.set(what, 16, 4));
            is("told", told(x, what, 0), 4);
        }
        about("Promise 4: false if one can't be, or another what");
        x.turn(0);
        int[] before = seen(x);
        refused("no such REACH", x.set(4, -1, 1), x.set(4, 16, 1), x.set(4, MAX, 1), x.set(4, MIN, 1));
        refused("no such BOAT", x.set(5, -1, 1), x.set(5, 10, 1), x.set(5, MAX, 1), x.set(5, MIN, 1), x.set(6, -1, 1),
            x.set(6, 10, 1), x.set(6, MAX, 1), x.set(6, MIN, 1));
        refused("another what", x.set(-1, 0, 0), x.set(7, 0, 0), x.set(MAX, 0, 0), x.set(MIN, 0, 0));
        refused("beyond", x.set(0, 0, 10), x.set(1, 0, 10), x.set(2, 0, 100), x.set(3, 0, 1001), x.set(4, 0, 100));
        row("nothing is done", seen(x), before);
        each("ARCHERS of others", 10, x.river(1, 0), x.river(14, 0));
        FogArrows y = with(1, 0, 0);
        refused("one that has not come yet", y.set(5, 1, 0), y.set(6, 1, 0), new FogArrows().set(5, 0, 0));
        is("where it shows to, and the other side", told(y, 5, 0) + told(y, 6, 0), 0);
    }

    private static void hands() {
        about("Promises 5 to 7: false, NONE if it can't be");
        FogArrows x = lostOne();
        x.turn(1);
        int[] before = seen(x);
        refused("turn", x.turn(0), x.turn(-1), x.turn(2), x.turn(MAX), x.turn(MIN));
        none("home", x.home(0), x.home(-1), x.home(2), x.home(MAX), x.home(MIN));
        refused("move: the BOAT", x.move(0, 3), x.move(-1, 3), x.move(2, 3), x.move(MAX, 3), x.move(MIN, 3));
        refused("move: the REACH", x.move(1, -1), x.move(1, 16), x.move(1, MAX), x.move(1, MIN));
        row("nothing is done", seen(x), before);
        FogArrows burnt = with(40, 0, 3);
        burnt.set(2, 0, 99);
        burnt.set(3, 0, 1000);
        burnt.hours(1);
        is("burnt", burnt.of(0, 6), 2);
        refused("a burnt one", burnt.turn(0), burnt.move(0, 0));
        none("a burnt one", burnt.home(0));
        refused("without BOATS", new FogArrows().turn(0), new FogArrows().move(0, 0));
        none("without BOATS", new FogArrows().home(0));
        about("3: TURNED is the other one");
        FogArrows y = ten();
        yes("turn", y.turn(9));
        is("TURNED", y.of(9, 5), 1);
        yes("turn", y.turn(9));
        is("TURNED", y.of(9, 5), 0);
        about("Promise 6: how many arrows: none, all");
        is("none", y.home(9), 0);
        row("its line", latest(y), 0, 2, 9, 0);
        y.set(5, 9, 999);
        y.set(6, 9, 999);
        is("all", y.home(9), 1998);
        row("its line", latest(y), 0, 2, 9, 1998);
        each("0 then", 0, y.of(9, 3), y.of(9, 4), y.home(9));
        y.set(5, 0, 1);
        is("LEFT alone", y.home(0), 1);
        is("the store", y.look(6), 1999);
        about("Promise 7: REACH 0 .. 15; it may be there");
        for (int reach : new int[] {0, 15, 15, 0, 0}) {
            yes("move", y.move(9, reach));
            is("REACH", y.of(9, 2), reach);
            row("its line", latest(y), 0, 5, 9, reach);
        }
        about("3: 1 turned: 0");
        y.hours(1);
        y.turn(3);
        row("its line", latest(y), 1, 1, 3, 0);
    }

    private static void hours() {
        about("Promise 8: 1 .. 60; else NONE, and nothing is done");
        FogArrows x = with(10, 0, 3);
        x.turn(0);
        int[] before = seen(x);
        none("hours", x.hours(0), x.hours(-1), x.hours(61), x.hours(MAX), x.hours(MIN));
        row("nothing is done", seen(x), before);
        is("1", x.hours(1), 0);
        is("HOUR", x.look(1), 1);
        yes("60", x.hours(60) >= 0);
        is("HOUR", x.look(1), 61);
        about("Promise 8: NONE, and nothing is done, if HOUR would be above 9999");
        FogArrows y = new FogArrows();
        for (int i = 0; i < 165; i++) {
            y.hours(60);
        }
        y.hours(39);
        is("HOUR", y.look(1), 9939);
        is("to 9999", y.hours(60), 0);
        is("HOUR", y.look(1), 9999);
        before = seen(y);
        none("above", y.hours(1), y.hours(60));
        row("nothing is done", seen(y), before);
        y.undo();
        none("to 10000", y.hours(2));
        is("HOUR", y.look(1), 9998);
        is("to 9999", y.hours(1), 0);
        for (int i = 0; i < 6; i++) {
            y.undo();
        }
        y.state(1);
        none("to 10000", y.hours(7));
        is("HOUR", y.look(1), 9993);
        is("STATE", y.look(9), 1);
        is("to 9999", y.hours(6), 0);
        about("Promise 8: how many arrows stuck, in all the HOURS, to all");
        FogArrows z = with(1, 0, 0, 1, 0, 1, 1, 2, 2);
        tell(z, 0, "shot 3;stick 100;list 999;");
        is("two of three BOATS", z.hours(1), 6);
        is("60 HOURS", z.hours(60), 360);
        is("RIGHT", z.of(1, 4), 183);
    }

    private static int stuckBy(int kind, String shot, String stick) {
        FogArrows x = with(1, kind, 3);
        tell(x, 0, "shot " + shot + ";stick " + stick + ";list 999;");
        int stuck = x.hours(1);
        is("RIGHT", x.of(0, 4), stuck);
        is("a line only if above 0", x.look(8), stuck > 0 ? 1 : 0);
        return stuck;
    }

    private static void sticking() {
        about("3: of shot arrows stick in a hundred (downwards)");
        is("1 of 1", stuckBy(0, "1", "100"), 1);
        is("99 in a hundred of 1", stuckBy(0, "1", "99"), 0);
        is("33 in a hundred of 3", stuckBy(0, "3", "33"), 0);
        is("34 in a hundred of 3", stuckBy(0, "3", "34"), 1);
        is("99 in a hundred of 99", stuckBy(0, "99", "99"), 98);
        is("all of 99", stuckBy(1, "99", "100"), 99);
        is("of none", stuckBy(0, "0", "100"), 0);
        is("none of 99", stuckBy(0, "99", "0"), 0);
        about("3: an empty one: none, but they are shot");
        is("an empty one", stuckBy(2, "99", "100"), 0);
        FogArrows x = with(40, 2, 3);
        x.set(0, 0, 0);
        is("shot", x.of(0, 7), 10);
        x.set(2, 0, 10);
        x.hours(1);
        is("ALARM is DRUMS more, fade less", x.look(4), 8);
        about("3: to the side that shows (999 at most)");
        int[][] sides = {{0, 998, 999}, {0, 994, 999}, {0, 993, 998}, {0, 999, 999}, {1, 998, 999}, {1, 999, 999},
            {1, 993, 998}, {1, 0, 5}, {0, 0, 5}};
        for (int[] s : sides) {
            FogArrows y = with(40, 0, 3);
            tell(y, 0, "shot 5; stick 100; list 999;");
            y.set(6 - s[0], 0, s[1]);
            y.set(5 + s[0], 0, 7);
            for (int i = 0; i < s[0]; i++) {
                y.turn(0);
            }
            int lines = y.look(8);
            is("stuck", y.hours(1), s[2] - s[1]);
            is("the side that shows", y.of(0, 4 - s[0]), s[2]);
            is("the other side", y.of(0, 3 + s[0]), 7);
            is("lines", y.look(8) - lines, s[2] > s[1] ? 1 : 0);
            if (s[2] > s[1]) {
                row("its line", latest(y), 0, 0, 0, s[2] - s[1]);
            }
        }
    }

    private static int alarmBehind(int alarm, int drums, String law, int... boats) {
        FogArrows x = with(boats);
        x.set(1, 0, drums);
        x.set(2, 0, alarm);
        tell(x, 0, law);
        x.hours(1);
        return x.look(4);
    }

    private static void alarms() {
        about("3: ALARM is DRUMS more (99 at most)");
        is("90 and 9", alarmBehind(90, 9, "fade 0;", 1, 2, 3), 99);
        is("91 and 9", alarmBehind(91, 9, "fade 0;", 1, 2, 3), 99);
        is("99 and 9", alarmBehind(99, 9, "fade 0;", 1, 2, 3), 99);
        is("89 and 9", alarmBehind(89, 9, "fade 0;", 1, 2, 3), 98);
        is("90 and 0", alarmBehind(90, 0, "fade 0;", 1, 2, 3), 90);
        is("for each BOAT", alarmBehind(90, 3, "fade 0;", 1, 2, 3, 1, 2, 4), 96);
        is("99 first, then fade", alarmBehind(90, 9, "fade 5;", 1, 2, 3, 1, 2, 4, 1, 2, 4), 94);
        is("without BOATS", alarmBehind(90, 9, "fade 0;"), 90);
        about("3: ALARM is fade less (0 at least)");
        is("5 less 5", alarmBehind(5, 0, ""), 0);
        is("4 less 5", alarmBehind(4, 0, ""), 0);
        is("0 less 5", alarmBehind(0, 0, ""), 0);
        is("6 less 5", alarmBehind(6, 0, ""), 1);
        is("99 less 98", alarmBehind(99, 0, "fade 98;"), 1);
        is("99 less 9999, held to 99", alarmBehind(99, 0, "fade 9999;"), 0);
        is("less what is held to 0", alarmBehind(50, 0, "fade 0 - 9;"), 50);
        about("3: only of a BOAT not LOST");
        FogArrows x = lostOne();
        x.set(2, 0, 50);
        int lines = x.look(8);
        x.hours(1);
        is("ALARM", x.look(4), 48);
        is("lines", x.look(8), lines + 1);
        is("the latest is of the other one", x.book(lines, 2), 1);
    }

    private static FogArrows leaning(int left, int right) {
        FogArrows x = with(40, 2, 3);
        tell(x, 0, "list 10; fade 0;");
        x.set(5, 0, left);
        x.set(6, 0, right);
        x.hours(1);
        return x;
    }

    private static void sinking() {
        about("3: is lean above list, it is LOST: sunk");
        is("as far", leaning(0, 10).of(0, 6), 0);
        is("above", leaning(0, 11).of(0, 6), 1);
        is("as far on the LEFT", leaning(999, 989).of(0, 6), 0);
        is("above on the LEFT", leaning(999, 988).of(0, 6), 1);
        is("the most", leaning(999, 0).of(0, 6), 1);
        about("3: a LOST BOAT's arrows are gone; how many is told by its line");
        FogArrows x = leaning(11, 999);
        each("LEFT, RIGHT", 0, x.of(0, 3), x.of(0, 4));
        row("its line", latest(x), 0, 3, 0, 1010);
        is("the store", x.look(6), 0);
        is("those LOST", x.look(7), 1);
        about("3: if FIRE is above 0 and ALARM 50 at least, a DRAW of 1000: below FIRE");
        is("FIRE 0", lostBy(DRAWS_0, 0, 99), 0);
        is("FIRE 1, a DRAW of 0", lostBy(DRAWS_0, 1, 99), 2);
        is("FIRE 1, a DRAW of 1", lostBy(DRAWS_1, 1, 99), 0);
        is("FIRE 1000", lostBy(-1606495515, 1000, 99), 2);
        is("FIRE 999, a DRAW of 999", lostBy(-1606495515, 999, 99), 0);
        is("ALARM 50", lostBy(DRAWS_0, 1000, 50), 2);
        is("ALARM 49", lostBy(DRAWS_0, 1000, 49), 0);
        int[][] drawn = {{0, 99, 0, 0, 1}, {1, 49, 0, 0, 1}, {1, 50, 0, 0, 2}, {1000, 99, 11, 0, 1}, {1, 47, 0, 3, 2},
            {1, 46, 0, 3, 1}};
        for (int[] d : drawn) {
            FogArrows y = with(1, 2, 3);
            y.set(3, 0, d[0]);
            y.set(2, 0, d[1]);
            y.set(5, 0, d[2]);
            y.set(1, 0, d[3]);
            y.hours(1);
            is("one DRAW for FOG, one more by FIRE " + d[0] + ", ALARM " + d[1] + ", lean " + d[2], y.look(9),
                d[4] == 1 ? 1013904223 : 1196435762);
        }
        FogArrows z = with(40, 2, 3, 40, 2, 3);
        z.set(2, 0, 99);
        z.set(3, 0, 1000);
        z.set(5, 1, 8);
        z.set(6, 1, 9);
        z.hours(1);
        is("each by a DRAW of its own", z.look(7), 3);
        is("three DRAWS", z.look(9), 1196435762 * 1664525 + 1013904223);
        row("the line of one without arrows", line(z, 0), 0, 4, 0, 0);
        row("the line of one with arrows", line(z, 1), 0, 4, 1, 17);
        each("gone", 0, z.of(1, 3), z.of(1, 4), z.look(6));
    }

    private static void fogs() {
        about("3: FOG one less, one more (0 .. 9)");
        int[][] due = {{0, 0, 0}, {1, 0, 0}, {9, 0, 8}, {0, 1, 1}, {8, 1, 9}, {9, 1, 9}};
        for (int[] d : due) {
            FogArrows x = new FogArrows();
            x.set(0, 0, d[0]);
            x.state(d[1] == 0 ? DRAWS_0 : DRAWS_1);
            x.hours(1);
            is("FOG " + d[0] + " by " + d[1], x.look(2), d[2]);
        }
        about("3: all is asked at its turn");
        FogArrows x = with(40, 0, 3);
        // shot, stick ahead of what comes, list behind it
        tell(x, 0, "shot stuck + 2; stick lean * 25; list 6 when stuck = 6; list 1;");
        x.set(6, 0, 4);
        is("by 4 on board: 100 in a hundred of 6", x.hours(1), 6);
        is("by 10 on board: list 1", x.of(0, 6), 1);
        FogArrows y = with(40, 0, 3);
        tell(y, 0, "shot stuck + 2; stick 0 - stuck + 50; list 5 when stuck = 5; list 1;");
        y.set(6, 0, 4);
        is("by 4 on board: 46 in a hundred of 6", y.hours(1), 2);
        is("by 6 on board: list 1", y.of(0, 6), 1);
        FogArrows z = new FogArrows();
        z.set(0, 0, 8);
        z.set(2, 0, 99);
        z.state(DRAWS_1);
        tell(z, 0, "fade fog; ");
        z.hours(1);
        is("fade behind FOG's DRAW", z.look(4), 90);
        FogArrows w = with(40, 0, 3, 40, 0, 3);
        tell(w, 0, "shot alarm; stick 100; fade 0; list 99 when alarm > 3; list 1;");
        // at 0 none come to the first, ALARM is 3: list 1 by lean 0; 3 come to the second, ALARM is 6 then: list 99
        is("each BOAT at its turn", w.hours(1), 3);
        is("none is LOST", w.look(7), 0);
        w.set(2, 0, 0);
        w.set(6, 0, 2);
        w.hours(1);
        is("the first is asked at ALARM 3", w.look(7), 1);
    }

    private static FogArrows planned(int kind, String plan) {
        FogArrows x = with(9, kind, 3, 9, kind, 4);
        tell(x, 2, plan);
        return x;
    }

    private static void plans() {
        about("2, 3: A PLAN, HOUR 0 .. 999: for this HOUR alone");
        FogArrows x = planned(2, "at 0 turn 0; at 999 move 1 to 9; at 23 drums 0; at 24 drums 9;");
        x.hours(23);
        is("once a night, not once a day", x.of(0, 5), 1);
        is("DRUMS", x.look(3), 3);
        x.hours(1);
        is("DRUMS at 23", x.look(3), 0);
        x.hours(1);
        is("DRUMS at 24", x.look(3), 9);
        for (int i = 0; i < 16; i++) {
            x.hours(60);
        }
        x.hours(14);
        is("HOUR", x.look(1), 999);
        is("not yet", x.of(1, 2), 4);
        x.hours(1);
        is("at 999", x.of(1, 2), 9);
        x.hours(1);
        is("TURNED once", x.of(0, 5), 1);
        about("3: line by line of A PLAN");
        FogArrows y = planned(2, "at 0 move 0 to 2;at 0 drums 8;at 0 move 0 to 5;at 0 drums 2;at 0 turn 0;at 0 turn 0;"
            + "at 0 home 0;at 0 home 0;at 1 home 1;at 0 turn 1;");
        y.set(5, 0, 1);
        y.hours(1);
        is("DRUMS by the latest", y.look(3), 2);
        is("REACH", y.of(0, 2), 5);
        is("TURNED", y.of(0, 5), 0);
        int[][] lines = {{5, 0, 2}, {5, 0, 5}, {1, 0, 0}, {1, 0, 0}, {2, 0, 1}, {2, 0, 0}, {1, 1, 0}};
        for (int i = 0; i < lines.length; i++) {
            row("line " + i, line(y, i), 0, lines[i][0], lines[i][1], lines[i][2]);
        }
        is("lines", y.look(8), lines.length);
        about("3: for a BOAT that is not LOST");
        FogArrows z = planned(2, "at 1 move 0 to 2;at 1 turn 0;at 1 home 0;at 1 drums 0;");
        z.set(5, 0, 999);
        z.hours(1);
        z.set(5, 0, 4);
        int[] before = {z.of(0, 2), z.of(0, 3), z.of(0, 5), z.look(6), z.look(8)};
        z.hours(1);
        row("a LOST one is left alone", new int[] {z.of(0, 2), z.of(0, 3), z.of(0, 5), z.look(6), z.look(8)}, before);
        is("but the DRUMS", z.look(3), 0);
    }

    private static void currents() {
        about("3: each BOAT not LOST goes by the current (0 .. 15 at most)");
        FogArrows x = with(9, 2, 0, 9, 2, 10, 9, 2, 11, 9, 2, 15, 1, 2, 3);
        x.set(5, 4, 99);
        x.hours(1);
        tell(x, 1, "hour 1 drift 5; hour 2 ebb 5; hour 3 ebb 4; hour 4 ebb 0; hour 5 drift 1; hour 6 drift 0;");
        int[][] due = {{5, 15, 15, 15, 3}, {0, 10, 10, 10, 3}, {0, 6, 6, 6, 3}, {0, 6, 6, 6, 3}, {1, 7, 7, 7, 3},
            {1, 7, 7, 7, 3}};
        for (int[] d : due) {
            x.hours(1);
            row("REACHES", new int[] {x.of(0, 2), x.of(1, 2), x.of(2, 2), x.of(3, 2), x.of(4, 2)}, d);
        }
        is("no line of it", x.look(8), 1);
        about("3: the current behind A PLAN, shots behind the current");
        FogArrows y = with(9, 0, 3);
        tell(y, 0, "stick 100; list 999;");
        tell(y, 1, "hour 0 drift 2;");
        tell(y, 2, "at 0 move 0 to 14;");
        y.set(0, 0, 0);
        y.set(4, 15, 44);
        is("by the ARCHERS of 15", y.hours(1), 44);
        row("moved to", line(y, 0), 0, 5, 0, 14);
        about("2: from hour N of a day on");
        FogArrows z = with(9, 2, 3);
        tell(z, 1, "hour 23 drift 3; hour 0 ebb 1;");
        z.hours(23);
        is("REACH", z.of(0, 2), 0);
        z.hours(1);
        is("at 23", z.of(0, 2), 3);
        z.hours(1);
        is("at 0 of the next day", z.of(0, 2), 2);
    }

    private static void books() {
        about("3: THE BOOK (150 lines; no more then)");
        FogArrows x = with(1, 0, 0, 1, 0, 0, 1, 0, 0);
        tell(x, 0, "shot 1; stick 100; list 999;");
        for (int i = 0; i < 148; i++) {
            x.turn(0);
        }
        x.hours(1);
        is("lines", x.look(8), 150);
        row("the last but one", line(x, 148), 0, 0, 0, 1);
        row("the last", line(x, 149), 0, 0, 1, 1);
        none("no more", x.book(150, 0), x.book(151, 0));
        x.hours(2);
        x.turn(2);
        x.move(1, 7);
        is("without a line", x.of(2, 5), 1);
        is("home without a line", x.home(1), 3);
        is("lines", x.look(8), 150);
        row("the last", line(x, 149), 0, 0, 1, 1);
        about("Promise 16: NONE if there is none such, or another what");
        FogArrows y = with(1, 0, 0);
        y.move(0, 9);
        none("without lines", new FogArrows().book(0, 0));
        none("no such line", y.book(1, 0), y.book(-1, 0), y.book(150, 0), y.book(MAX, 0), y.book(MIN, 0));
        none("another what", y.book(0, -1), y.book(0, 4), y.book(0, MAX), y.book(0, MIN));
        row("the line", line(y, 0), 0, 5, 0, 9);
        y.home(0);
        row("the first stays", line(y, 0), 0, 5, 0, 9);
        row("the second", line(y, 1), 0, 2, 0, 0);
    }

    private static void asked() {
        about("Promise 13: NONE if there is none such, or another what");
        FogArrows x = ten();
        is("the last", x.of(9, 0), 10);
        none("no such BOAT", x.of(10, 0), x.of(-1, 0), x.of(MAX, 0), x.of(MIN, 0), new FogArrows().of(0, 6));
        none("another what", x.of(0, -1), x.of(0, 10), x.of(0, MAX), x.of(0, MIN));
        about("Promise 13: of a LOST BOAT, too");
        FogArrows y = lostOne();
        row("of 0", new int[] {y.of(0, 0), y.of(0, 1), y.of(0, 2), y.of(0, 3), y.of(0, 4), y.of(0, 5), y.of(0, 6),
            y.of(0, 8), y.of(0, 9)}, 1, 0, 3, 0, 0, 0, 1, 41, 10);
        about("Promise 14: NONE - 99 if there is none such, or another what");
        each("no such REACH", -100, x.river(-1, 0), x.river(16, 0), x.river(23, 0), x.river(MAX, 0), x.river(MIN, 0));
        each("no such HOUR", -100, x.river(-1, 1), x.river(24, 1), x.river(MAX, 1), x.river(MIN, 1));
        each("another what", -100, x.river(0, -1), x.river(0, 2), x.river(0, MAX), x.river(0, MIN));
        each("the last REACH, the last HOUR", 0, x.river(15, 0) - 10, x.river(23, 1));
        tell(x, 1, "hour 0 ebb 5; hour 23 drift 5;");
        is("the furthest ebb", x.river(0, 1), -5);
        is("the furthest drift", x.river(23, 1), 5);
    }

    public static void main(String[] args) {
        atFirst();
        draws();
        boats();
        sets();
        hands();
        hours();
        sticking();
        alarms();
        sinking();
        fogs();
        plans();
        currents();
        books();
        asked();
        end("edges of the river");
    }
}
