/** A test for each sentence of "4. IN THOUGHT" and promises 17 to 34 that names a bound. */
public final class FogArrowsThoughtEdges extends Checks {
    // What is behind this STATE of draws: its highest 24 bits are 1, so that FOG is one more.
    private static final int DRAWS_1 = 103732453;
    private static final String ONE = "shot 1;stick 100;";

    private static FogArrows lawful(String law, int... boats) {
        FogArrows x = with(boats);
        tell(x, 0, law);
        return x;
    }

    /** FIRE that burns all, FOG that rises. */
    private static void endanger(FogArrows x) {
        x.set(2, 0, 99);
        x.set(3, 0, 1000);
        x.state(DRAWS_1);
    }

    private static void goes() {
        about("Promise 17: GOES for 1 .. 99 HOURS; NONE if one can't be, or another what");
        FogArrows x = lawful(ONE + "list 999;", 10, 0, 3);
        x.set(6, 0, 4);
        for (int what = 0; what < 3; what++) {
            none("n", x.goes(0, what), x.goes(100, what), x.goes(-1, what), x.goes(MAX, what), x.goes(MIN, what));
        }
        none("what", x.goes(1, -1), x.goes(1, 3), x.goes(1, MAX), x.goes(1, MIN), x.goes(0, 3));
        is("1", x.goes(1, 0), 5);
        is("99", x.goes(99, 0), 103);
        about("4: ARROWS in the store and on BOATS not LOST then; how many are LOST then");
        FogArrows y = lawful(ONE + "list 2 when straw=1;list 999;", 40, 0, 3, 1, 0, 3);
        y.set(5, 0, 10);
        y.home(0);
        int[][] due = {{12, 0}, {14, 0}, {13, 1}, {14, 1}};
        for (int i = 0; i < 4; i++) {
            row("behind " + (i + 1), new int[] {y.goes(i + 1, 0), y.goes(i + 1, 1)}, due[i]);
        }
        about("4: those LOST now are LOST then");
        FogArrows lost = lostOne();
        row("behind 1", new int[] {lost.goes(1, 0), lost.goes(1, 1)}, 8, 1);
        row("behind 2", new int[] {lost.goes(2, 0), lost.goes(2, 1)}, 0, 2);
        about("4: ARROWS told of a LOST BOAT are not on one that is not LOST");
        lost.set(5, 0, 50);
        row("behind 1", new int[] {lost.goes(1, 0), lost.keeps(8), lost.keeps(9)}, 8, 1, NONE);
        about("4: ALARM");
        FogArrows z = new FogArrows();
        z.set(2, 0, 7);
        row("to 0 at least", new int[] {z.goes(1, 2), z.goes(2, 2), z.goes(99, 2)}, 2, 0, 0);
        FogArrows loud = lawful("fade 0;", 10, 2, 3, 10, 2, 3);
        row("to 99 at most", new int[] {loud.goes(16, 2), loud.goes(17, 2), loud.goes(99, 2)}, 96, 99, 99);
        row("without BOATS", new int[] {z.goes(1, 0), z.goes(1, 1)}, 0, 0);
        about("4: no DRAWS: no fire, FOG stays");
        FogArrows f = with(40, 0, 3);
        f.set(0, 0, 0);
        endanger(f);
        // 80 in a hundred of 10
        row("ARROWS, LOST", new int[] {f.goes(1, 0), f.goes(3, 0), f.goes(3, 1)}, 8, 24, 0);
        about("4: A PLAN and CURRENTS are of those HOURS");
        FogArrows p = lawful("shot reach;stick 100;list 999;", 9, 0, 3);
        tell(p, 1, "hour 0 drift 2;hour 1 ebb 1;");
        tell(p, 2, "at 1 move 0 to 12;at 2 drums 0;");
        row("5, 11, 10 more", new int[] {p.goes(1, 0), p.goes(2, 0), p.goes(3, 0)}, 5, 16, 26);
        p.set(2, 0, 50);
        row("3 more, 5 less; 5 less", new int[] {p.goes(2, 2), p.goes(3, 2)}, 46, 41);
    }

    private static void nothingStays() {
        about("4: nothing of it stays");
        FogArrows x = lawful("list 20;", 40, 0, 3, 1, 0, 9);
        tell(x, 1, "hour 0 drift 3;");
        tell(x, 2, "at 0 turn 0;at 0 home 1;at 0 move 1 to 2;at 0 drums 9;");
        x.set(0, 0, 0);
        x.set(5, 1, 9);
        endanger(x);
        x.turn(1);
        int[] before = seen(x);
        x.goes(99, 0);
        x.stays(0);
        x.keeps(9999);
        x.turnings(0, 4, 0);
        x.turnings(1, 10, 1);
        x.lies(20);
        x.fogs(3, 48);
        row("seen", seen(x), before);
        yes("what can be undone", x.undo());
        is("TURNED", x.of(1, 5), 0);
        x.hours(1);
        is("burnt, both", x.look(7), 3);
        about("4: IN THOUGHT an HOUR may go by at 9999");
        FogArrows y = lawful(ONE + "list 999;", 9, 2, 3);
        for (int i = 0; i < 166; i++) {
            y.hours(60);
        }
        y.hours(39);
        y.set(2, 0, 99);
        is("HOUR", y.look(1), 9999);
        none("not by hours", y.hours(1));
        // 99 and 3 is 99, less 5; 3 more, 5 less each time
        row("ALARM", new int[] {y.goes(1, 2), y.goes(3, 2)}, 94, 90);
    }

    private static void stays() {
        about("Promise 18: behind how many HOURS (1 .. 99) it is LOST; NONE if not by then");
        int[][] due = {{1, 0, 2}, {1, 1, 1}, {2, 0, 3}, {97, 0, 98}, {98, 0, 99}, {99, 0, NONE}, {99, 1, 99}, {999, 0, NONE}};
        for (int[] d : due) {
            FogArrows x = lawful(ONE + "list " + d[0] + ";", 10, 0, 3);
            x.set(6, 0, d[1]);
            is("list " + d[0] + ", lean " + d[1], x.stays(0), d[2]);
        }
        about("Promise 18: NONE if it is LOST now, or there is none such");
        FogArrows x = lostOne();
        none("LOST", x.stays(0));
        is("the other one", x.stays(1), 2);
        none("none such", x.stays(2), x.stays(-1), x.stays(10), x.stays(MAX), x.stays(MIN), new FogArrows().stays(0));
        about("4: no fire");
        FogArrows f = lawful(ONE + "list 3;", 40, 0, 3, 40, 2, 3);
        endanger(f);
        is("sunk behind 4", f.stays(0), 4);
        none("an empty one", f.stays(1));
        about("4: it may be brought home, turned by A PLAN");
        tell(f, 2, "at 2 home 0;at 5 turn 0;");
        // 1, 2, 1, 2, 3; then LEFT
        is("stays", f.stays(0), 12);
    }

    private static void keeps() {
        about("Promise 19: m 1 .. 9999; NONE if m can't be");
        FogArrows x = lawful(ONE + "list 999;", 10, 0, 3, 10, 2, 3);
        none("m", x.keeps(0), x.keeps(-1), x.keeps(10000), x.keeps(MAX), x.keeps(MIN));
        about("Promise 19: behind how many HOURS (0 .. 99); NONE if not by then");
        is("1", x.keeps(1), 1);
        is("99", x.keeps(99), 99);
        none("100", x.keeps(100), x.keeps(9999));
        x.set(5, 0, 5);
        is("as many as there are", x.keeps(5), 0);
        is("one more", x.keeps(6), 1);
        is("99 more", x.keeps(104), 99);
        none("100 more", x.keeps(105));
        for (int i = 0; i < 5; i++) {
            x.set(5, 0, 999);
            x.set(6, 0, 999);
            x.home(0);
        }
        x.set(6, 1, 8);
        is("9998 in the store and on BOATS", x.look(6), 9990);
        is("9998", x.keeps(9998), 0);
        is("9999", x.keeps(9999), 1);
        x.set(6, 1, 9);
        is("9999", x.keeps(9999), 0);
        none("10000", x.keeps(10000));
        about("4: at least, though fewer behind it");
        FogArrows y = lawful(ONE + "list 2 when straw=1;list 999;", 40, 0, 3, 1, 0, 3);
        // 2, 4, then 3
        is("4", y.keeps(4), 2);
        is("5", y.keeps(5), 5);
        about("4: not those of LOST ones");
        FogArrows z = lostOne();
        is("4 now, 8, then none", z.keeps(4), 0);
        is("8", z.keeps(8), 1);
        none("9", z.keeps(9));
        none("without BOATS", new FogArrows().keeps(1));
    }

    private static void turnings() {
        about("Promise 20: NONE if one can't be, or another what");
        FogArrows x = lawful(ONE + "list 999;", 10, 0, 3);
        for (int what = 0; what < 2; what++) {
            none("n", x.turnings(0, 0, what), x.turnings(0, 11, what), x.turnings(0, -1, what), x.turnings(0, MAX, what),
                x.turnings(0, MIN, what));
            none("BOAT", x.turnings(1, 1, what), x.turnings(-1, 1, what), x.turnings(MAX, 1, what), x.turnings(MIN, 1, what),
                new FogArrows().turnings(0, 1, what), lostOne().turnings(0, 1, what));
        }
        none("what", x.turnings(0, 1, -1), x.turnings(0, 1, 2), x.turnings(0, 1, MAX), x.turnings(0, 1, MIN));
        about("4: TURNINGS for 1 .. 10 HOURS, of several sets the least");
        for (int n = 1; n < 11; n++) {
            row("for " + n, new int[] {x.turnings(0, n, 0), x.turnings(0, n, 1)}, n, 0);
        }
        about("4: bit 0 the first HOUR, bit 9 the tenth");
        // arrows must come to the RIGHT nine times, to the LEFT then
        FogArrows last = lawful(ONE + "list 999 when hour<9 and hour+lean=99;list 999 when hour=9 and lean>90;list 1;",
            10, 0, 3);
        last.set(5, 0, 100);
        row("for 9", new int[] {last.turnings(0, 9, 0), last.turnings(0, 9, 1)}, 109, 0);
        row("for 10", new int[] {last.turnings(0, 10, 0), last.turnings(0, 10, 1)}, 110, 512);
        last.turn(0);
        row("turned now", new int[] {last.turnings(0, 1, 1), last.turnings(0, 9, 1), last.turnings(0, 10, 1)}, 1, 1, 513);
        // to and fro: lean is 1, 0, 1, 0 ..
        FogArrows fro = lawful(ONE + "list 999 when lean<2;list 1;", 10, 0, 3);
        row("to and fro", new int[] {fro.turnings(0, 1, 1), fro.turnings(0, 2, 1), fro.turnings(0, 3, 1),
            fro.turnings(0, 4, 1), fro.turnings(0, 10, 1)}, 0, 2, 2, 10, 682);
        is("all of them", fro.turnings(0, 10, 0), 10);
        // above 2 it is sunk: turned at the second (2) or at the third (4), not at the first (1), not by none
        FogArrows two = lawful(ONE + "list 2;", 10, 0, 3);
        row("3 HOURS", new int[] {two.turnings(0, 3, 0), two.turnings(0, 3, 1)}, 3, 2);
        row("5 HOURS: by 2, 3 three on one side", new int[] {two.turnings(0, 5, 0), two.turnings(0, 5, 1)}, 5, 4);
        about("4: most arrows, of those by which it is not LOST");
        // as many come as lean tells: the more on one side the more; above 20 it is sunk
        FogArrows most = lawful("shot lean+1;stick 100;list 20;", 10, 0, 3);
        // RIGHT 1, 3, 7, 15; a fifth HOUR brings 16: only to the LEFT
        row("for 4", new int[] {most.turnings(0, 4, 0), most.turnings(0, 4, 1)}, 15, 0);
        row("for 5", new int[] {most.turnings(0, 5, 0), most.turnings(0, 5, 1)}, 31, 16);
        about("Promise 20: NONE if it is LOST by each");
        FogArrows sunk = lawful(ONE + "list 5;", 10, 0, 3);
        sunk.set(5, 0, 7);
        for (int n = 1; n < 4; n++) {
            none("for " + n, sunk.turnings(0, n, 0), sunk.turnings(0, n, 1));
        }
        sunk.set(5, 0, 6);
        row("not by none", new int[] {sunk.turnings(0, 1, 0), sunk.turnings(0, 1, 1)}, 7, 0);
        about("4: of arrows on board; it may have none");
        FogArrows none = with(10, 2, 3);
        row("none", new int[] {none.turnings(0, 3, 0), none.turnings(0, 3, 1)}, 0, 0);
        tell(x, 2, "at 1 home 0;");
        row("brought home", new int[] {x.turnings(0, 2, 0), x.turnings(0, 3, 0)}, 1, 2);
        about("4: no DRAWS");
        endanger(x);
        row("no fire", new int[] {x.turnings(0, 3, 0), x.turnings(0, 3, 1)}, 2, 0);
    }

    private static FogArrows archers(int of4, int of9, int of15) {
        FogArrows x = lawful("shot archers;stick 100;list 50;", 40, 0, 2);
        for (int r = 0; r < 16; r++) {
            x.set(4, r, r == 4 ? of4 : r == 9 ? of9 : r == 15 ? of15 : 0);
        }
        return x;
    }

    private static void lies() {
        about("Promise 21: LIES for n 1 .. 20; NONE if n can't be");
        FogArrows x = archers(99, 5, 5);
        none("n", x.lies(0), x.lies(-1), x.lies(21), x.lies(MAX), x.lies(MIN));
        about("4: the fewest BOATS are LOST, of several most ARROWS, of several the least REACH");
        is("sunk at 4; 9 as good as 15", x.lies(1), 9);
        // 100 by 20 HOURS are above list; none at all are best
        is("20 HOURS: sunk at 4, 9, 15", x.lies(20), 0);
        is("10 HOURS: 50 are not above list", x.lies(10), 9);
        is("11 HOURS: 55 are", x.lies(11), 0);
        is("the last REACH", archers(99, 5, 6).lies(1), 15);
        is("the most", archers(50, 49, 49).lies(1), 4);
        is("sunk", archers(51, 49, 49).lies(1), 9);
        is("none anywhere", archers(0, 0, 0).lies(1), 0);
        FogArrows first = archers(0, 5, 51);
        for (int r = 0; r < 9; r++) {
            first.set(4, r, 90);
        }
        is("sunk at 0 .. 8, and at 15", first.lies(1), 9);
        first.set(4, 9, 51);
        is("at 10 none come", first.lies(1), 10);
        first.set(4, 14, 1);
        is("at 14 one", first.lies(1), 14);
        FogArrows all = archers(99, 5, 5);
        all.set(5, 0, 999);
        is("LOST wherever it lies", all.lies(1), 0);
        about("4: all BOATS not LOST; of two as many LOST, more ARROWS");
        FogArrows two = lawful("shot archers when kind=0;shot 3 when reach=7;shot 0;stick 100;list 50;", 40, 0, 2, 40, 1, 2);
        for (int r = 0; r < 16; r++) {
            two.set(4, r, r == 6 ? 60 : r == 8 ? 2 : 0);
        }
        is("3 on the second at 7", two.lies(1), 7);
        two.set(4, 8, 4);
        is("4 on the first at 8", two.lies(1), 8);
        two.set(5, 0, 999);
        // the first is LOST anywhere; the second has 3 at 7
        is("the first is LOST", two.lies(1), 7);
        two.hours(1);
        is("LOST now", two.look(7), 1);
        is("not moved", two.lies(1), 7);
        about("4: LIES go by CURRENTS and A PLAN; no DRAWS");
        FogArrows y = archers(0, 0, 5);
        endanger(y);
        is("no fire", y.lies(1), 15);
        tell(y, 1, "hour 0 drift 2;");
        is("13 drifts to 15", y.lies(1), 13);
        tell(y, 1, "hour 0 ebb 1;");
        is("none comes to 15", y.lies(1), 0);
        tell(y, 1, "");
        tell(y, 2, "at 0 move 0 to 15;");
        is("moved by A PLAN", y.lies(1), 0);
        FogArrows fog = with(40, 0, 2);
        fog.set(4, 3, 20);
        fog.set(4, 2, 19);
        endanger(fog);
        is("FOG stays", fog.lies(20), 3);
        is("without BOATS", new FogArrows().lies(1), 0);
        FogArrows lost = with(1, 2, 5);
        lost.set(5, 0, 99);
        lost.hours(1);
        is("all are LOST", lost.lies(20), 0);
    }

    private static void fogs() {
        about("Promise 22: f 0 .. 9, n 0 .. 48; NONE if one can't be");
        FogArrows x = new FogArrows();
        none("f", x.fogs(-1, 1), x.fogs(10, 1), x.fogs(MAX, 1), x.fogs(MIN, 1));
        none("n", x.fogs(1, -1), x.fogs(1, 49), x.fogs(1, MAX), x.fogs(1, MIN));
        about("4: of a million, how likely FOG is f at least, behind n HOURS");
        row("at once", new int[] {x.fogs(0, 0), x.fogs(5, 0), x.fogs(6, 0), x.fogs(9, 0)}, 1000000, 1000000, 0, 0);
        // 250000, 62500, 15625, 3906 (downwards)
        row("9", new int[] {x.fogs(9, 3), x.fogs(9, 4), x.fogs(9, 48)}, 0, 3906, 107944);
        row("1", new int[] {x.fogs(1, 3), x.fogs(1, 4), x.fogs(1, 48)}, 1000000, 1000000, 910870);
        row("0: all", new int[] {x.fogs(0, 1), x.fogs(0, 48)}, 1000000, 1000000);
        row("5", new int[] {x.fogs(5, 1), x.fogs(5, 48)}, 750000, 530447);
        about("4: at 0 that quarter stays");
        x.set(0, 0, 0);
        row("1", new int[] {x.fogs(1, 0), x.fogs(1, 1), x.fogs(1, 2), x.fogs(1, 48)}, 0, 250000, 375000, 839136);
        // a quarter of 15 is 3 downwards
        row("9", new int[] {x.fogs(9, 8), x.fogs(9, 9), x.fogs(9, 10), x.fogs(9, 11)}, 0, 3, 21, 66);
        is("8", x.fogs(8, 10), 221);
        about("4: at 9 that quarter stays");
        x.set(0, 0, 9);
        row("9", new int[] {x.fogs(9, 0), x.fogs(9, 1), x.fogs(9, 2), x.fogs(9, 48)}, 1000000, 750000, 625000, 160864);
        row("1", new int[] {x.fogs(1, 8), x.fogs(1, 12)}, 1000000, 999845);
        is("FOG", x.look(2), 9);
    }

    private static void buys() {
        about("Promise 23: s 1 .. 999; NONE if by none, s can't be, or another what");
        FogArrows x = new FogArrows();
        none("without VILLAGES", x.buys(1, 0), x.buys(1, 1));
        tell(x, 3, "village 11 straw 99;");
        none("s", x.buys(0, 0), x.buys(-1, 0), x.buys(1000, 0), x.buys(MAX, 1), x.buys(MIN, 1));
        none("what", x.buys(1, -1), x.buys(1, 2), x.buys(1, MAX), x.buys(1, MIN));
        row("1", new int[] {x.buys(1, 0), x.buys(1, 1)}, 1, 2048);
        row("as much", new int[] {x.buys(99, 0), x.buys(99, 1)}, 1, 2048);
        none("more", x.buys(100, 0), x.buys(100, 1), x.buys(999, 0));
        about("4: no two of which talk");
        tell(x, 3, "village 0 straw 5 talks 1 and 2;village 3 straw 5 talks 1 and 2;village 1 straw 5;village 2 straw 5;");
        row("of several the least: 1 and 2, not 0 and 3", new int[] {x.buys(10, 0), x.buys(10, 1)}, 2, 6);
        row("of several the least: 0", new int[] {x.buys(5, 0), x.buys(5, 1)}, 1, 1);
        none("three of them talk", x.buys(11, 0), x.buys(15, 1));
        about("4: the fewest");
        tell(x, 3, "village 0 straw 5;village 1 straw 5;village 2 straw 9;village 3 straw 10;village 4 straw 1;");
        row("10", new int[] {x.buys(10, 0), x.buys(10, 1)}, 1, 8);
        row("11: 14 of 0 and 2", new int[] {x.buys(11, 0), x.buys(11, 1)}, 2, 5);
        row("15: 15 of 0 and 3", new int[] {x.buys(15, 0), x.buys(15, 1)}, 2, 9);
        row("19", new int[] {x.buys(19, 0), x.buys(19, 1)}, 2, 12);
        row("30", new int[] {x.buys(30, 0), x.buys(30, 1)}, 5, 31);
        none("31", x.buys(31, 0));
        StringBuilder all = new StringBuilder();
        for (int v = 0; v < 12; v++) {
            all.append("village ").append(v).append(" straw ").append(v < 10 ? 83 : 85).append(';');
        }
        tell(x, 3, all.toString());
        row("999: all but one", new int[] {x.buys(999, 0), x.buys(999, 1)}, 12, 4095);
    }

    private static void hears() {
        about("Promise 24: HEARS, with itself; NONE if it was not told");
        FogArrows x = new FogArrows();
        none("not told", x.hears(0), x.hears(11));
        tell(x, 3, "village 0 straw 1 talks 11;village 11 straw 1 talks 1;village 1 straw 1 talks 10;village 10 straw 1 talks 2;"
            + "village 2 straw 1 talks 9;village 9 straw 1 talks 3;village 3 straw 1 talks 8;village 8 straw 1 talks 4;"
            + "village 4 straw 1 talks 7;village 7 straw 1 talks 5;village 5 straw 1 talks 6;village 6 straw 1;");
        each("on to all", 4095, x.hears(0), x.hears(6), x.hears(4), x.hears(11));
        none("no such one", x.hears(-1), x.hears(12), x.hears(MAX), x.hears(MIN));
        about("Promise 25: CUTS; NONE if they talk or are alike, or one was not told");
        is("from end to end", x.cuts(0, 6), 1);
        is("one between", x.cuts(0, 1), 1);
        none("they talk", x.cuts(0, 11), x.cuts(11, 0), x.cuts(5, 6));
        none("alike", x.cuts(0, 0), x.cuts(11, 11));
        none("no such one", x.cuts(-1, 0), x.cuts(0, -1), x.cuts(12, 0), x.cuts(0, 12), x.cuts(MAX, 0), x.cuts(0, MIN));
        tell(x, 3, "village 0 straw 1 talks 5;village 5 straw 1;village 6 straw 1;village 9 straw 1 talks 7;");
        is("alone", x.hears(6), 64);
        each("two", 33, x.hears(0), x.hears(5));
        is("with one not told", x.hears(9), 512);
        none("not told", x.hears(7), x.cuts(7, 0), x.cuts(0, 7), x.cuts(7, 7), x.cuts(9, 7));
        each("talk does not go there anyhow", 0, x.cuts(0, 6), x.cuts(6, 0), x.cuts(5, 9));
        StringBuilder all = new StringBuilder();
        for (int v = 0; v < 12; v += 11) {
            all.append("village ").append(v).append(" straw 1 talks 1");
            for (int w = 2; w < 11; w++) {
                all.append(" and ").append(w);
            }
            all.append(';');
        }
        for (int v = 1; v < 11; v++) {
            all.append("village ").append(v).append(" straw 1;");
        }
        takes(x, 3, all.toString(), 12);
        each("ten between", 10, x.cuts(0, 11), x.cuts(11, 0));
        each("two between", 2, x.cuts(1, 10), x.cuts(10, 1));
    }

    private static void counts() {
        about("Promise 26: modulo m 2 .. 30, r below m; m 0, 1: r 0 .. 1000");
        FogArrows x = new FogArrows();
        none("m", x.count(-2, 0), x.count(31, 0), x.count(MAX, 0), x.count(MIN, 0));
        for (int m = 2; m <= 30; m++) {
            none("r by " + m, x.count(m, -1), x.count(m, m), x.count(m, MAX), x.count(m, MIN));
        }
        for (int m = 0; m < 2; m++) {
            none("r by " + m, x.count(m, -1), x.count(m, 1001), x.count(m, MAX), x.count(m, MIN));
        }
        is("nothing is told", x.look(14), 0);
        int[][] good = {{2, 0}, {2, 1}, {30, 0}, {30, 29}, {0, 0}, {0, 1000}, {1, 0}, {1, 1000}};
        for (int i = 0; i < 8; i++) {
            is("count", x.count(good[i][0], good[i][1]), i + 1);
        }
        about("Promise 26: NONE if there are eight");
        none("the ninth", x.count(2, 0), x.count(0, 1000), x.count(31, 0));
        is("eight", x.look(14), 8);
        about("Promise 26: m NONE: nothing is told then");
        is("of eight", x.count(NONE, MIN), 0);
        is("of none", x.count(NONE, MAX), 0);
        is("look", x.look(14), 0);
        is("fits", x.fits(0), 1000);
        is("it can be told again", x.count(2, 0), 1);
        about("Promise 27: NONE for another what");
        none("what", x.fits(-1), x.fits(4), x.fits(MAX), x.fits(MIN));
    }

    private static FogArrows told(int... things) {
        FogArrows x = new FogArrows();
        for (int i = 0; i + 1 < things.length; i += 2) {
            x.count(things[i], things[i + 1]);
        }
        return x;
    }

    private static void fits(String call, FogArrows x, int many, int least, int greatest, int ask) {
        row(call, new int[] {x.fits(0), x.fits(1), x.fits(2), x.fits(3)}, many, least, greatest, ask);
    }

    private static void fitting() {
        about("4: a number 0 .. 999: it is below, or at least, v");
        // of all of them 34 at most have one rest by 30, 35 by 29
        fits("nothing told", told(), 1000, 0, 999, 30);
        fits("below 1000", told(0, 1000), 1000, 0, 999, 30);
        fits("at least 0", told(1, 0), 1000, 0, 999, 30);
        fits("below 999", told(0, 999), 999, 0, 998, 30);
        fits("at least 1", told(1, 1), 999, 1, 999, 30);
        about("Promise 27: NONE if none (1, 2); ASK NONE: fewer than two");
        fits("below 0", told(0, 0), 0, NONE, NONE, NONE);
        fits("at least 1000", told(1, 1000), 0, NONE, NONE, NONE);
        fits("below 1", told(0, 1), 1, 0, 0, NONE);
        fits("at least 999", told(1, 999), 1, 999, 999, NONE);
        fits("both rests by 2", told(2, 0, 2, 1), 0, NONE, NONE, NONE);
        about("4: modulo m it is r");
        fits("2, 1", told(2, 1, 0, 4), 2, 1, 3, 3);
        fits("30, 29", told(30, 29, 0, 60), 2, 29, 59, 4);
        fits("30, 0", told(30, 0, 1, 990), 1, 990, 990, NONE);
        fits("eight of them", told(1, 100, 0, 900, 2, 0, 3, 0, 5, 0, 7, 0, 4, 0, 9, 0), 0, NONE, NONE, NONE);
        fits("seven of them", told(1, 100, 0, 900, 2, 0, 3, 0, 5, 0, 7, 0, 4, 0), 2, 420, 840, 8);
        about("4: ASK: the greatest number of those with one rest is least; of several the least m");
        fits("0, 1", told(0, 2), 2, 0, 1, 2);
        fits("0, 1, 2", told(0, 3), 3, 0, 2, 3);
        fits("0 .. 29", told(0, 30), 30, 0, 29, 30);
        fits("0 .. 28", told(0, 29), 29, 0, 28, 29);
        fits("0 .. 30: two at most by 16", told(0, 31), 31, 0, 30, 16);
        fits("0, 420, 840: all apart by 9", told(30, 0, 28, 0), 3, 0, 840, 9);
        fits("0, 30 .. 990: all apart by none, two at most by 17", told(30, 0), 34, 0, 990, 17);
    }

    private static FogArrows costs(int waitWait, int waitShoot, int comeWait, int comeShoot) {
        FogArrows x = new FogArrows();
        yes("0", x.bank(0, waitWait));
        yes("1", x.bank(1, waitShoot));
        yes("2", x.bank(2, comeWait));
        yes("3", x.bank(3, comeShoot));
        return x;
    }

    private static void rests(String call, FogArrows x, int p, int sum) {
        row(call, new int[] {x.rests(0), x.rests(1)}, p, sum);
    }

    private static void banks() {
        about("Promise 28: false if one can't be");
        FogArrows x = costs(99, 0, 0, 99);
        refused("k", x.bank(-1, 0), x.bank(4, 0), x.bank(MAX, 0), x.bank(MIN, 0));
        for (int k = 0; k < 4; k++) {
            refused("v", x.bank(k, -1), x.bank(k, 100), x.bank(k, MAX), x.bank(k, MIN));
        }
        rests("nothing is done", x, 500, 49500);
        about("Promise 29: NONE for another what");
        none("what", x.rests(-1), x.rests(2), x.rests(MAX), x.rests(MIN));
        about("4: the p 0 .. 1000 for which the greater sum is least; of several the least");
        rests("at first", new FogArrows(), 0, 0);
        rests("all cost 99", costs(99, 99, 99, 99), 0, 99000);
        rests("all cost 1", costs(1, 1, 1, 1), 0, 1000);
        rests("to come costs more", costs(0, 0, 99, 99), 0, 0);
        rests("to wait costs more", costs(99, 99, 0, 0), 1000, 0);
        rests("to wait costs more", costs(99, 99, 98, 98), 1000, 98000);
        rests("to wait, if they wait", costs(99, 0, 0, 0), 1000, 0);
        rests("to come, if they shoot", costs(0, 0, 0, 99), 0, 0);
        // 1000 + 2p if they shoot, 2000 - 2p if they wait
        rests("at 250", costs(2, 1, 0, 3), 250, 1500);
        // 2p if they shoot, 1000 - p if they wait: 666 and 667 at 333, 668 and 666 at 334
        rests("at 333", costs(1, 0, 0, 2), 333, 667);
        // p and 2000 - 2p: 666 and 668, 667 and 666
        rests("at 667", costs(2, 0, 0, 1), 667, 667);
        // 7000 whatever we do if they shoot; 99000 - 99p if they wait: 7029 at 929, 6930 at 930
        rests("from 930 on", costs(99, 7, 0, 7), 930, 7000);
        rests("from 0 on", costs(7, 7, 0, 7), 0, 7000);
        rests("999 is not enough", costs(99, 1, 1, 1), 1000, 1000);
    }

    private static void marks() {
        about("Promise 30: 1 .. 999; NONE if one can't be");
        FogArrows x = new FogArrows();
        none("n", x.mark(0), x.mark(-2), x.mark(1000), x.mark(MAX), x.mark(MIN));
        none("no owner", x.share(0, 0));
        int[] good = {1, 999, 999, 1, 5, 7};
        for (int i = 0; i < 6; i++) {
            is("mark", x.mark(good[i]), i + 1);
        }
        about("Promise 30: NONE if there are six");
        none("the seventh", x.mark(1), x.mark(999), x.mark(0));
        is("six", x.look(15), 6);
        about("Promise 31: NONE if one can't be");
        none("n", x.share(-1, 0), x.share(10000, 0), x.share(MAX, 0), x.share(MIN, 0));
        none("owner", x.share(1, -1), x.share(1, 6), x.share(1, MAX), x.share(1, MIN));
        about("Promise 30: NONE: none are then");
        is("none", x.mark(NONE), 0);
        none("no owner", x.share(1, 0), x.share(1, 5));
        is("none of none", x.mark(NONE), 0);
        is("again", x.mark(3), 1);
        none("no second one", x.share(1, 1));
        about("4: SHARES of n 0 .. 9999 by marks, downwards");
        row("of one", new int[] {x.share(0, 0), x.share(1, 0), x.share(9999, 0)}, 0, 1, 9999);
        about("4: what is left one by one to those with the greatest rests (of several the least)");
        shares(9999, new int[] {999, 1}, 9989, 10);
        shares(9999, new int[] {999, 999, 999, 999, 999, 999}, 1667, 1667, 1667, 1666, 1666, 1666);
        shares(5, new int[] {1, 1, 1, 1, 1, 1}, 1, 1, 1, 1, 1, 0);
        shares(1, new int[] {1, 1, 1}, 1, 0, 0);
        shares(6, new int[] {1, 1, 1, 1, 1, 1}, 1, 1, 1, 1, 1, 1);
        shares(0, new int[] {1, 999}, 0, 0);
        // of 10: 1.5, 2.5, 6
        shares(10, new int[] {3, 5, 12}, 2, 2, 6);
        // of 11 by 10: 1.1, 2.2, 7.7
        shares(11, new int[] {1, 2, 7}, 1, 2, 8);
        // of 13 by 10: 1.3, 2.6, 9.1
        shares(13, new int[] {1, 2, 7}, 1, 3, 9);
        // of 8 by 10: 0.8, 1.6, 5.6: two are left, for the first and the second
        shares(8, new int[] {1, 2, 7}, 1, 2, 5);
        shares(9999, new int[] {999, 998, 997, 996, 995, 994}, 1671, 1669, 1667, 1666, 1664, 1662);
    }

    private static void shares(int n, int[] marks, int... due) {
        FogArrows x = new FogArrows();
        for (int m : marks) {
            x.mark(m);
        }
        int[] got = new int[marks.length];
        for (int i = 0; i < got.length; i++) {
            got[i] = x.share(n, i);
        }
        row("share of " + n, got, due);
    }

    private static FogArrows heaps(int drums, int... leans) {
        FogArrows x = new FogArrows();
        x.set(1, 0, drums);
        for (int i = 0; i < leans.length; i++) {
            x.boat(40, 2, 0);
            x.set(5 + i % 2, i, leans[i]);
        }
        return x;
    }

    private static void plays(FogArrows x, int boat, int many) {
        row("game", new int[] {x.game(0), x.game(1)}, boat, many);
    }

    private static void games() {
        about("Promise 32: NONE for another what");
        FogArrows x = heaps(3, 3);
        none("what", x.game(-1), x.game(2), x.game(MAX), x.game(MIN));
        about("4: two by turns take 1 up to DRUMS and 1 of one BOAT's; who takes the last one wins");
        plays(x, 0, 3);
        plays(heaps(3, 4), 0, 4);
        plays(heaps(3, 6), 0, 1);
        plays(heaps(3, 9), 0, 4);
        plays(heaps(0, 1), 0, 1);
        plays(heaps(0, 999), 0, 1);
        plays(heaps(9, 10), 0, 10);
        plays(heaps(9, 12), 0, 1);
        plays(heaps(9, 999), 0, 9);
        about("Promise 32: NONE if who begins loses");
        plays(new FogArrows(), NONE, NONE);
        plays(heaps(3, 0), NONE, NONE);
        plays(heaps(3, 5), NONE, NONE);
        plays(heaps(0, 2), NONE, NONE);
        plays(heaps(9, 11), NONE, NONE);
        plays(heaps(9, 990), NONE, NONE);
        plays(heaps(3, 7, 2), NONE, NONE);
        plays(heaps(9, 1, 2, 3), NONE, NONE);
        about("4: the BOAT (of several the least)");
        // 5 less 3 is 2, too; or 2 less 2 is 0 as 5
        plays(heaps(3, 5, 2), 0, 3);
        plays(heaps(3, 3, 5), 0, 3);
        // 1, 2, 4: 4 is to be 3
        plays(heaps(9, 1, 2, 4), 2, 1);
        // 6 is 1 by 5, 7 is 2: 6 less 4 is as good as 7 less 1
        plays(heaps(3, 6, 7), 0, 4);
        plays(heaps(3, 0, 0, 0, 0, 0, 0, 0, 0, 0, 1), 9, 1);
        about("4: from lean of BOATS not LOST");
        FogArrows lost = lostOne();
        lost.set(6, 0, 3);
        lost.set(5, 1, 4);
        plays(lost, NONE, NONE);
        lost.set(5, 1, 6);
        plays(lost, 1, 2);
    }

    private static void crowds() {
        about("Promise 33: NONE for another what; REACH NONE: none afloat");
        FogArrows x = new FogArrows();
        none("what", x.crowd(-1), x.crowd(3), x.crowd(MAX), x.crowd(MIN));
        row("without BOATS", new int[] {x.crowd(0), x.crowd(1), x.crowd(2)}, NONE, 0, 0);
        FogArrows lost = with(1, 2, 5);
        lost.set(5, 0, 99);
        row("one", new int[] {lost.crowd(0), lost.crowd(1), lost.crowd(2)}, 5, 1, 10);
        lost.hours(1);
        row("all are LOST", new int[] {lost.crowd(0), lost.crowd(1), lost.crowd(2)}, NONE, 0, 0);
        none("what", lost.crowd(3));
        about("4: the REACH at which most are (of several the least); ARCHERS of all REACHES at which some are");
        FogArrows y = with(1, 0, 15, 1, 0, 0, 1, 0, 15, 1, 0, 0);
        y.set(4, 0, 1);
        y.set(4, 15, 99);
        row("two and two", new int[] {y.crowd(0), y.crowd(1), y.crowd(2)}, 0, 2, 100);
        y.boat(1, 0, 15);
        row("two and three", new int[] {y.crowd(0), y.crowd(1), y.crowd(2)}, 15, 3, 100);
        y.move(0, 7);
        y.move(2, 7);
        row("two, two and one", new int[] {y.crowd(0), y.crowd(1), y.crowd(2)}, 0, 2, 110);
        y.move(1, 7);
        row("one, three and one", new int[] {y.crowd(0), y.crowd(1), y.crowd(2)}, 7, 3, 110);
        y.set(4, 7, 0);
        is("no ARCHERS", y.crowd(2), 100);
        FogArrows ten = new FogArrows();
        for (int i = 0; i < 10; i++) {
            ten.boat(1, 0, i + 6);
        }
        row("each by itself", new int[] {ten.crowd(0), ten.crowd(1), ten.crowd(2)}, 6, 1, 100);
    }

    private static void heavies() {
        about("Promise 34: NONE - 999 if none is afloat, or for another what");
        FogArrows x = with(1, 2, 5);
        each("what", -1000, x.heavy(-1), x.heavy(2), x.heavy(MAX), x.heavy(MIN));
        each("without BOATS", -1000, new FogArrows().heavy(0), new FogArrows().heavy(1));
        x.set(5, 0, 10);
        row("as far as list", new int[] {x.heavy(0), x.heavy(1)}, 0, 0);
        x.set(5, 0, 999);
        row("above list, not LOST yet", new int[] {x.heavy(0), x.heavy(1)}, 0, -989);
        x.hours(1);
        each("all are LOST", -1000, x.heavy(0), x.heavy(1));
        about("4: list less lean (of several the least)");
        FogArrows y = with(40, 0, 0, 5, 0, 0, 6, 0, 0, 5, 0, 0);
        row("the least list", new int[] {y.heavy(0), y.heavy(1)}, 1, 50);
        y.set(6, 0, 351);
        row("49", new int[] {y.heavy(0), y.heavy(1)}, 0, 49);
        y.set(5, 0, 1);
        row("50, as the second: the least", new int[] {y.heavy(0), y.heavy(1)}, 0, 50);
        y.set(5, 0, 2);
        row("51", new int[] {y.heavy(0), y.heavy(1)}, 1, 50);
        tell(y, 0, "list 0;");
        row("list 1 at least", new int[] {y.heavy(0), y.heavy(1)}, 0, -348);
        tell(y, 0, "list 9999;");
        row("list 999 at most", new int[] {y.heavy(0), y.heavy(1)}, 0, 650);
        about("4: the BOAT not LOST");
        FogArrows z = lostOne();
        z.set(5, 0, 999);
        row("the other one", new int[] {z.heavy(0), z.heavy(1)}, 1, 6);
    }

    public static void main(String[] args) {
        goes();
        nothingStays();
        stays();
        keeps();
        turnings();
        lies();
        fogs();
        buys();
        hears();
        counts();
        fitting();
        banks();
        marks();
        games();
        crowds();
        heavies();
        end("edges of what is in thought");
    }
}
