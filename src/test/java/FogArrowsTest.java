/** The promises one by one, with answers worked out by hand from the document. */
public final class FogArrowsTest extends Checks {
    private static void newObject() {
        about("promise 1");
        FogArrows x = new FogArrows();
        int[] due = {0, 0, 5, 3, 0, 0, 0, 0, 0, 0, 0, 0, 0, 0, 0, 0, 0};
        for (int i = 0; i < due.length; i++) {
            is("look " + i, x.look(i), due[i]);
        }
        for (int r = 0; r < 16; r++) {
            is("archers " + r, x.river(r, 0), 10);
        }
        is("of", x.of(0, 0), NONE);
        is("book", x.book(0, 0), NONE);
        no("undo", x.undo());
        no("image", x.image(false));
        is("NONE", FogArrows.NONE, -1);
    }

    private static void state() {
        about("promise 2");
        FogArrows x = new FogArrows();
        is("state", x.state(-7), 0);
        is("state", x.state(Integer.MAX_VALUE), -7);
        is("look 9", x.look(9), Integer.MAX_VALUE);
        // the DRAW of an HOUR without FIRE is the one of 4 alone; wraps
        x.hours(1);
        is("look 9", x.look(9), Integer.MAX_VALUE * 1664525 + 1013904223);
        // 24 highest bits without sign: a state below 0 draws as well; 0 lets FOG fall, 1 rise, others stay
        int[] fogs = {4, 6, 5, 5};
        boolean[] met = new boolean[4];
        for (int v = -20; v < 20; v++) {
            FogArrows y = new FogArrows();
            y.state(v * 99999989);
            int next = v * 99999989 * 1664525 + 1013904223;
            int drawn = (next >>> 8) % 4;
            met[drawn] = true;
            y.hours(1);
            is("FOG by " + drawn, y.look(2), fogs[drawn]);
        }
        yes("all were drawn", met[0] && met[1] && met[2] && met[3]);
    }

    private static void boat() {
        about("promise 3");
        FogArrows x = new FogArrows();
        int[][] bad = {{0, 0, 0}, {41, 0, 0}, {1, -1, 0}, {1, 3, 0}, {1, 0, -1}, {1, 0, 16}};
        for (int[] b : bad) {
            is("boat", x.boat(b[0], b[1], b[2]), NONE);
        }
        for (int i = 0; i < 10; i++) {
            is("boat " + i, x.boat(i == 0 ? 1 : 40, i % 3, i == 0 ? 0 : 15), i);
        }
        is("the eleventh", x.boat(1, 0, 0), NONE);
        is("look 0", x.look(0), 10);
    }

    private static void set() {
        about("promise 4");
        FogArrows x = with(5, 0, 3);
        int[] most = {9, 9, 99, 1000, 99, 999, 999};
        for (int what = 0; what < 7; what++) {
            no("below " + what, x.set(what, 0, -1));
            no("above " + what, x.set(what, 0, most[what] + 1));
            yes("least " + what, x.set(what, 0, 0));
            yes("most " + what, x.set(what, 0, most[what]));
        }
        is("FOG", x.look(2), 9);
        is("DRUMS", x.look(3), 9);
        is("ALARM", x.look(4), 99);
        is("FIRE", x.look(5), 1000);
        is("ARCHERS", x.river(0, 0), 99);
        is("LEFT", x.of(0, 3), 999);
        is("RIGHT", x.of(0, 4), 999);
        no("what -1", x.set(-1, 0, 0));
        no("what 7", x.set(7, 0, 0));
        yes("who not asked", x.set(0, -5, 1));
        no("reach -1", x.set(4, -1, 0));
        no("reach 16", x.set(4, 16, 0));
        yes("reach 15", x.set(4, 15, 1));
        no("boat -1", x.set(5, -1, 0));
        no("boat 1", x.set(6, 1, 0));
    }

    private static void turn() {
        about("promise 5");
        FogArrows x = with(1, 0, 3, 1, 0, 3);
        yes("turn", x.turn(1));
        is("TURNED", x.of(1, 5), 1);
        is("TURNED", x.of(0, 5), 0);
        is("line", x.book(0, 1), 1);
        is("line", x.book(0, 2), 1);
        is("line", x.book(0, 3), 0);
        yes("turn", x.turn(1));
        is("TURNED", x.of(1, 5), 0);
        no("turn -1", x.turn(-1));
        no("turn 2", x.turn(2));
        is("lines", x.look(8), 2);
        FogArrows y = lostOne();
        is("lost", y.look(7), 1);
        no("turn a lost one", y.turn(0));
    }

    private static void home() {
        about("promise 6");
        FogArrows x = with(1, 0, 3);
        is("home", x.home(0), 0);
        is("line", x.book(0, 1), 2);
        is("line of none", x.book(0, 3), 0);
        x.set(5, 0, 7);
        x.set(6, 0, 6);
        is("home", x.home(0), 13);
        is("home", x.home(0), 0);
        is("store", x.look(6), 13);
        is("left", x.of(0, 3) + x.of(0, 4), 0);
        is("line", x.book(1, 3), 13);
        is("home 1", x.home(1), NONE);
        is("home -1", x.home(-1), NONE);
        is("home of a lost one", lostOne().home(0), NONE);
    }

    private static void move() {
        about("promise 7");
        FogArrows x = with(1, 0, 3);
        yes("move", x.move(0, 15));
        is("REACH", x.of(0, 2), 15);
        yes("move to where it is", x.move(0, 15));
        is("lines", x.look(8), 2);
        is("line", x.book(1, 1), 5);
        is("line", x.book(1, 3), 15);
        no("move -1", x.move(0, -1));
        no("move 16", x.move(0, 16));
        no("boat 1", x.move(1, 0));
        no("boat -1", x.move(-1, 0));
        yes("move 0", x.move(0, 0));
        no("move a lost one", lostOne().move(0, 0));
    }

    private static void hours() {
        about("promise 8");
        FogArrows x = with(10, 0, 3);
        is("hours 0", x.hours(0), NONE);
        is("hours 61", x.hours(61), NONE);
        is("HOUR", x.look(1), 0);
        is("hours 60", x.hours(60) >= 0 ? 1 : 0, 1);
        is("HOUR", x.look(1), 60);
        for (int i = 0; i < 165; i++) {
            x.hours(60);
        }
        is("HOUR", x.look(1), 9960);
        int state = x.look(9);
        is("hours 40", x.hours(40), NONE);
        is("HOUR", x.look(1), 9960);
        is("STATE", x.look(9), state);
        x.hours(39);
        is("HOUR", x.look(1), 9999);
        is("hours 1", x.hours(1), NONE);
        stickingAndLosing();
        burning();
        fullSides();
        fullBook();
        askedAtTheirTurns();
    }

    private static void stickingAndLosing() {
        // shot 10 - 0, stick 41: 4 come; 10 of straw more: 50: 5; empty: none, but ALARM is 3 more for each
        FogArrows x = with(1, 0, 3, 10, 1, 3, 9, 2, 3);
        x.set(0, 0, 0);
        x.set(6, 0, 6);
        is("hours", x.hours(1), 9);
        is("RIGHT", x.of(0, 4), 10);
        is("RIGHT", x.of(1, 4), 5);
        is("RIGHT", x.of(2, 4), 0);
        is("ALARM", x.look(4), 4);
        is("lean 10 is not above 10", x.look(7), 0);
        x.turn(1);
        x.set(0, 0, 0);
        // the first one is sunk by 4 more; the second is turned: LEFT
        is("hours", x.hours(1), 9);
        is("LOST", x.of(0, 6), 1);
        is("its arrows", x.of(0, 3) + x.of(0, 4), 0);
        is("LEFT", x.of(1, 3), 5);
        is("ALARM", x.look(4), 8);
        int[][] due = {{0, 0, 0, 4}, {0, 0, 1, 5}, {1, 1, 1, 0}, {1, 0, 0, 4}, {1, 3, 0, 14}, {1, 0, 1, 5}};
        for (int i = 0; i < due.length; i++) {
            for (int w = 0; w < 4; w++) {
                is("book " + i + " " + w, x.book(i, w), due[i][w]);
            }
        }
        is("lines", x.look(8), due.length);
        // a lost one is not shot at: two times 3 of ALARM less 5
        x.set(2, 0, 0);
        x.hours(1);
        is("ALARM", x.look(4), 1);
    }

    private static void burning() {
        FogArrows x = with(40, 0, 3, 40, 0, 3);
        x.set(3, 0, 1000);
        x.set(2, 0, 46);
        x.hours(1);
        // ALARM is 49 at the first (no DRAW), 52 at the second: it is burnt
        is("LOST", x.of(0, 6), 0);
        is("LOST", x.of(1, 6), 2);
        int state = 1013904223;
        is("two draws", x.look(9), state * 1664525 + 1013904223);
        is("line", x.book(x.look(8) - 1, 1), 4);
        // a DRAW of 1000 as great as FIRE does not burn; one below does
        int drawn = (state >>> 8) % 1000;
        FogArrows y = with(40, 0, 3);
        y.set(3, 0, drawn);
        y.set(2, 0, 47);
        y.hours(1);
        is("LOST by " + drawn, y.of(0, 6), 0);
        FogArrows z = with(40, 0, 3);
        z.set(3, 0, drawn + 1);
        z.set(2, 0, 47);
        z.hours(1);
        is("LOST by " + drawn, z.of(0, 6), 2);
        // FIRE 1 burns by a DRAW of 0; FIRE 0 is not drawn for
        int zero = 0;
        for (int v = 0; v < 100000 && zero == 0; v++) {
            zero = ((v * 1664525 + 1013904223) >>> 8) % 1000 == 0 ? v : 0;
        }
        for (int fire = 0; fire < 2; fire++) {
            FogArrows f = with(40, 0, 3);
            f.state(zero);
            f.set(3, 0, fire);
            f.set(2, 0, 99);
            f.hours(1);
            is("LOST by FIRE " + fire, f.of(0, 6), 2 * fire);
        }
        // one that is sunk is not drawn for
        FogArrows s = with(1, 0, 3);
        s.set(3, 0, 1000);
        s.set(2, 0, 99);
        s.set(5, 0, 999);
        s.hours(1);
        is("LOST", s.of(0, 6), 1);
        is("one draw", s.look(9), state);
        is("arrows gone", s.book(s.look(8) - 1, 3), 999);
    }

    private static void fullSides() {
        FogArrows x = with(40, 0, 3);
        x.set(0, 0, 0);
        x.set(5, 0, 997);
        x.set(6, 0, 997);
        is("stuck", x.hours(1), 2);
        is("RIGHT", x.of(0, 4), 999);
        is("line", x.book(0, 3), 2);
        x.set(0, 0, 0);
        is("stuck", x.hours(1), 0);
        is("no line", x.look(8), 1);
        x.set(2, 0, 98);
        tell(x, 0, "fade 0;");
        x.hours(1);
        is("ALARM at most", x.look(4), 99);
    }

    private static void fullBook() {
        FogArrows x = with(1, 0, 0);
        for (int i = 0; i < 150; i++) {
            x.move(0, i % 16);
        }
        is("lines", x.look(8), 150);
        yes("turn", x.turn(0));
        is("lines", x.look(8), 150);
        is("the last", x.book(149, 1), 5);
        is("no more", x.book(150, 0), NONE);
        x.undo();
        is("lines", x.look(8), 150);
        x.undo();
        is("lines", x.look(8), 149);
        x.turn(0);
        is("the last", x.book(149, 1), 1);
    }

    /** shot and stick ahead of what comes, list behind it and behind ALARM's rising; fade behind FOG's. */
    private static void askedAtTheirTurns() {
        FogArrows x = with(40, 0, 3, 40, 0, 3);
        tell(x, 0, "shot alarm + 7; stick 100; list 12 when alarm > 6 ; list 11; fade 0;");
        x.set(2, 0, 4);
        // first: shot 11, ALARM 7 then: list 12: afloat. Second: shot 14: sunk
        is("stuck", x.hours(1), 25);
        is("LOST", x.look(7), 2);
        FogArrows y = new FogArrows();
        y.set(2, 0, 99);
        y.state(1);
        tell(y, 0, "fade fog * 10 + hour + archers + straw + kind + reach + stuck + lean;");
        y.hours(1);
        is("ALARM less by the new FOG", y.look(4), 99 - 10 * y.look(2));
    }

    private static void tape() {
        about("promise 9");
        FogArrows x = new FogArrows();
        is("feed", x.feed(0x66616465, 0x20352020, 0x3b202020, 0x20202020, 0x20202020), 20);
        is("text", x.text(0), 1);
        for (int i = 1; i <= 20; i++) {
            is("feed", x.feed(0x20202020, 0x20202020, 0x20202020, 0x20202020, 0x20202020), 20 * i);
        }
        is("feed above 400", x.feed(1, 2, 3, 4, 5), NONE);
        is("text", x.text(0), 0);
        about("promise 10");
        is("feed", x.feed(1, 2, 3, 4, 5), 20);
        no("end 21", x.end(21));
        no("end -1", x.end(-1));
        yes("end 20", x.end(20));
        yes("end 3", x.end(3));
        no("end 4", x.end(4));
        is("feed", x.feed(1, 2, 3, 4, 5), 23);
        yes("end 0", x.end(0));
        is("feed", x.feed(-1, -1, -1, -1, -1), 20);
        for (int i = 0; i < 18; i++) {
            x.feed(0, 0, 0, 0, 0);
        }
        yes("end 380", x.end(380));
        is("feed", x.feed(0, 0, 0, 0, 0), 400);
        yes("end 381", x.end(381));
        is("feed", x.feed(0, 0, 0, 0, 0), NONE);
        is("text", x.text(0), NONE);
        is("fault(1)", x.fault(1), 0);
    }

    private static void texts() {
        about("promise 11");
        FogArrows x = with(10, 0, 3);
        is("text -1", tell(x, -1, "fade x"), NONE);
        is("the TAPE is empty", x.feed(0, 0, 0, 0, 0), 20);
        x.end(0);
        refuses(x, 0, "fade x;", 1, 5);
        is("text 4", tell(x, 4, "fade 1;"), NONE);
        about("promise 12");
        is("fault(0)", x.fault(0), 0);
        is("fault(1)", x.fault(1), NONE);
        is("fault(2)", x.fault(2), NONE);
        is("fault(-1)", x.fault(-1), NONE);
        x.end(0);
        lawTexts(x);
        nests(x);
        currentTexts(x);
        planTexts(x);
        villageTexts(x);
        about("promise 11");
        takes(x, 0, "list 7;", 1);
        refuses(x, 0, "list 8; list", 1, 12);
        is("as it was", x.of(0, 9), 7);
        is("lines", x.look(10), 1);
        is("the TAPE is empty", x.feed(0, 0, 0, 0, 0), 20);
        x.end(0);
        takes(x, 0, "", 0);
        is("list", x.of(0, 9), 100);
    }

    private static void lawTexts(FogArrows x) {
        takes(x, 0, " \n shot 1;stick 2 ;\nlist\n3;fade 4;", 4);
        takes(x, 0, "shot1when fog<drums;", 1);
        takes(x, 0, times("fade 1;", 16), 16);
        refuses(x, 0, times("fade 1;", 16) + " fade x;", 3, 113);
        refuses(x, 0, times("fade 1;", 16) + "turn", 1, 112);
        refuses(x, 0, "fad 1;", 1, 0);
        refuses(x, 0, "Fade 1;", 1, 0);
        refuses(x, 0, "fade1x;", 1, 5);
        refuses(x, 0, "fade 12345;", 1, 5);
        takes(x, 0, "fade 0000;", 1);
        refuses(x, 0, "fade 5 / 0;", 2, 9);
        refuses(x, 0, "fade 5 / fog;", 1, 9);
        refuses(x, 0, "fade 5 * ;", 1, 9);
        refuses(x, 0, "fade (5);", 1, 5);
        refuses(x, 0, "fade 5 when 1;", 1, 13);
        refuses(x, 0, "fade 5 when 1 < 2 < 3;", 1, 18);
        refuses(x, 0, "fade 5 when 1 < ;", 1, 16);
        refuses(x, 0, "fade 5 when (1 < 2;", 1, 18);
        refuses(x, 0, "fade 5 when 1 < 2);", 1, 17);
        refuses(x, 0, "fade 5 when 1 < 2 or;", 1, 20);
        refuses(x, 0, "fade 5 when not;", 1, 15);
        refuses(x, 0, "fade 5 when ;", 1, 12);
        refuses(x, 0, "fade 5\t;", 1, 6);
        refuses(x, 0, "fade 5.;", 1, 6);
        refuses(x, 0, "fade 5  \n", 1, 9);
    }

    private static void nests(FogArrows x) {
        String tight = "list 10 when ";
        takes(x, 0, tight + times("(", 8) + "1<2" + times(")", 8) + ";", 1);
        refuses(x, 0, tight + times("(", 9) + "1<2" + times(")", 9) + ";", 3, 21);
        takes(x, 0, tight + times("not ", 8) + "1<2;", 1);
        refuses(x, 0, tight + times("not ", 9) + "1<2;", 3, 45);
        refuses(x, 0, tight + times("not(", 4) + "not 1<2" + times(")", 4) + ";", 3, 29);
        takes(x, 0, tight + times("not(", 4) + "1<2" + times(")", 4) + " and not (not 3 < 4 or (1=1));", 1);
        takes(x, 0, tight + times("not 1<2 and ", 12) + "1<2;", 1);
        takes(x, 0, tight + "(" + times("not 1<2 or ", 12) + "(1<2));", 1);
        refuses(x, 0, tight + times("(", 7) + "not 1<2 and not (1<2", 3, 36);
    }

    private static void currentTexts(FogArrows x) {
        takes(x, 1, "hour 0 drift 0;hour 23 ebb 5;", 2);
        takes(x, 1, times("hour 1 ebb 1;", 16), 16);
        refuses(x, 1, times("hour 1 ebb 1;", 16) + "hour 24", 3, 208);
        refuses(x, 1, "hour 24 drift 1;", 2, 5);
        refuses(x, 1, "hour 2 drift 6;", 2, 13);
        refuses(x, 1, "hour 2 ebb 6;", 2, 11);
        refuses(x, 1, "hour 2 ebb;", 1, 10);
        refuses(x, 1, "hour 2 turn 1;", 1, 7);
        refuses(x, 1, "hour ebb 1;", 1, 5);
        refuses(x, 1, "hour 2 ebb 1 hour", 1, 13);
    }

    private static void planTexts(FogArrows x) {
        takes(x, 2, "at 0 turn 0; at 999 drums 9; at 5 home 0; at 1 move 0 to 15;", 4);
        takes(x, 2, times("at 1 turn 0;", 16), 16);
        refuses(x, 2, times("at 1 turn 0;", 16) + " at at", 3, 193);
        refuses(x, 2, "at 1000 turn 0;", 2, 3);
        refuses(x, 2, "at 1 turn 1;", 2, 10);
        refuses(x, 2, "at 1 home 1;", 2, 10);
        refuses(x, 2, "at 1 move 1 to 3;", 2, 10);
        refuses(x, 2, "at 1 move 0 to 16;", 2, 15);
        refuses(x, 2, "at 1 move 0 3;", 1, 12);
        refuses(x, 2, "at 1 drums 10;", 2, 11);
        refuses(x, 2, "at 1 fog 1;", 1, 5);
        refuses(new FogArrows(), 2, "at 1 turn 0;", 2, 10);
    }

    private static void villageTexts(FogArrows x) {
        takes(x, 3, "village 0 straw 1; village 11 straw 99 talks 0 and 3 and 3;", 2);
        refuses(x, 3, "village 12 straw 1;", 2, 8);
        refuses(x, 3, "village 1 straw 0;", 2, 16);
        refuses(x, 3, "village 1 straw 100;", 2, 16);
        refuses(x, 3, "village 1 straw 5; village 1 straw 5;", 2, 27);
        refuses(x, 3, "village 1 straw 5 talks 1;", 2, 24);
        refuses(x, 3, "village 1 straw 5 talks 2 and 12;", 2, 30);
        refuses(x, 3, "village 1 straw 5 talks;", 1, 23);
        refuses(x, 3, "village 1 straw 5 and 2;", 1, 18);
        refuses(x, 3, "village 1 straw 5 talks 2 talks 3;", 1, 26);
        refuses(x, 3, "village 1 talks 2;", 1, 10);
        is("as it was", x.village(11, 1), 1);
        is("villages", x.look(13), 2);
    }

    private static void of() {
        about("promise 13");
        FogArrows x = with(12, 1, 7);
        x.set(5, 0, 3);
        x.set(6, 0, 9);
        x.turn(0);
        int[] due = {12, 1, 7, 3, 9, 1, 0, 0, 52, 120};
        for (int w = 0; w < 10; w++) {
            is("of 0 " + w, x.of(0, w), due[w]);
        }
        is("of 0 10", x.of(0, 10), NONE);
        is("of 0 -1", x.of(0, -1), NONE);
        is("of 1", x.of(1, 0), NONE);
        is("of -1", x.of(-1, 0), NONE);
        x.set(4, 7, 99);
        x.set(0, 0, 0);
        is("shot", x.of(0, 7), 99);
        x.set(0, 0, 4);
        is("shot", x.of(0, 7), 91);
        laws(x);
    }

    private static void list(FogArrows x, String e, int due) {
        tell(x, 0, "list " + e + ";");
        is("list " + e, x.of(0, 9), due);
    }

    private static void when(FogArrows x, String b, boolean due) {
        tell(x, 0, "list 2 when " + b + "; list 1;");
        is("list when " + b, x.of(0, 9), due ? 2 : 1);
    }

    private static void laws(FogArrows x) {
        x.set(2, 0, 17);
        list(x, "fog * 100 + drums * 10 + kind", 431);
        list(x, "alarm * 10 + reach", 177);
        list(x, "archers + straw * 10 + hour", 219);
        list(x, "stuck * 10 + lean", 126);
        list(x, "2 + 3 * 4 - 5 * 2", 4);
        list(x, "100 / 7 / 3 * 2", 8);
        list(x, "20 - 3 - 2 + 1", 16);
        list(x, "500 - 7 / 2 + 1", 498);
        list(x, "300 + 9 * fog - 16 * fog / 3 * 2 - 1", 293);
        list(x, "0 - 5", 1);
        list(x, "9999", 999);
        // the product wraps to -2095407274, of which 9999 is a part -209561 times, and some more
        when(x, "9999 * 9999 * 22 / 9999 = 0 - 2095 * 100 - 61", true);
        when(x, "9999 * 9999 * 22 < 0", true);
        when(x, "1 < 2", true);
        when(x, "2 < 2", false);
        when(x, "2 > 2", false);
        when(x, "3 > 2", true);
        when(x, "2 = 2", true);
        when(x, "2 = 3", false);
        when(x, "not 2 = 3", true);
        when(x, "not 2 = 3 and 1 = 2", false);
        when(x, "not (2 = 3 and 1 = 2)", true);
        when(x, "1 = 1 or 1 = 1 and 1 = 2", true);
        when(x, "(1 = 1 or 1 = 1) and 1 = 2", false);
        when(x, "1 = 2 and 1 = 2 or 1 = 1", true);
        when(x, "1 = 2 or 1 = 2 or not not 1 = 1", true);
        when(x, "1 + 1 * 2 = 3 and 0 - 1 < 0", true);
        tell(x, 0, "shot 300; stick 300; list 300 when fog = 0; list 200 when fog = 4; list 5;");
        is("shot", x.of(0, 7), 99);
        is("stick", x.of(0, 8), 100);
        is("list", x.of(0, 9), 200);
        tell(x, 0, "shot 0 - 1; stick 0 - 1; list 0 - 1; fade 0 - 9;");
        is("shot", x.of(0, 7), 0);
        is("stick", x.of(0, 8), 0);
        is("list", x.of(0, 9), 1);
        x.set(1, 0, 0);
        x.hours(1);
        is("fade", x.look(4), 17);
        tell(x, 0, "list hour;");
        x.hours(24);
        is("HOUR modulo 24", x.of(0, 9), 1);
        x.hours(4);
        is("HOUR modulo 24", x.of(0, 9), 5);
        tell(x, 0, "stick 7 when fog > 9;");
        is("none whose B is so", x.of(0, 8), 52);
    }

    private static void river() {
        about("promise 14");
        FogArrows x = with(9, 0, 0, 9, 0, 15);
        is("what 2", x.river(0, 2), -100);
        is("what -1", x.river(0, -1), -100);
        is("reach 16", x.river(16, 0), -100);
        is("reach -1", x.river(-1, 0), -100);
        is("hour 24", x.river(24, 1), -100);
        is("hour -1", x.river(-1, 1), -100);
        is("without lines", x.river(23, 1), 0);
        tell(x, 1, "hour 20 drift 1; hour 5 drift 3; hour 20 ebb 2; hour 9 ebb 1;");
        int[] due = {-2, -2, -2, -2, -2, 3, 3, 3, 3, -1, -1, -1, -1, -1, -1, -1, -1, -1, -1, -1, -2, -2, -2, -2};
        for (int h = 0; h < 24; h++) {
            is("hour " + h, x.river(h, 1), due[h]);
        }
        x.hours(1);
        is("REACH", x.of(0, 2), 0);
        is("REACH", x.of(1, 2), 13);
        x.hours(5);
        is("REACH", x.of(0, 2), 3);
        is("REACH", x.of(1, 2), 8);
        x.hours(18);
        x.hours(12);
        tell(x, 1, "hour 3 drift 5;");
        x.hours(9);
        is("REACH", x.of(0, 2), 15);
    }

    private static void village() {
        about("promise 15");
        FogArrows x = new FogArrows();
        is("village", x.village(0, 0), NONE);
        tell(x, 3, "village 2 straw 7 talks 5 and 9; village 9 straw 1; village 3 straw 2 talks 2;");
        is("straw", x.village(2, 0), 7);
        is("talks", x.village(2, 1), 1 << 9 | 1 << 3);
        is("talks", x.village(9, 1), 4);
        is("talks", x.village(3, 1), 4);
        is("not told", x.village(5, 1), NONE);
        is("what 2", x.village(2, 2), NONE);
        is("what -1", x.village(2, -1), NONE);
        is("village 12", x.village(12, 0), NONE);
        is("village -1", x.village(-1, 0), NONE);
    }

    private static void book() {
        about("promise 16");
        FogArrows x = with(9, 0, 4);
        tell(x, 2, "at 1 move 0 to 9; at 1 turn 0; at 1 home 0; at 1 drums 7; at 2 move 0 to 9;");
        tell(x, 1, "hour 0 ebb 1;");
        x.set(5, 0, 8);
        x.hours(2);
        int[][] due = {{1, 5, 0, 9}, {1, 1, 0, 0}, {1, 2, 0, 8}};
        for (int i = 0; i < 3; i++) {
            for (int w = 0; w < 4; w++) {
                is("book " + i + " " + w, x.book(i, w), due[i][w]);
            }
        }
        is("DRUMS", x.look(3), 7);
        is("REACH", x.of(0, 2), 8);
        is("store", x.look(6), 8);
        is("lines", x.look(8), 3);
        is("book 3", x.book(3, 0), NONE);
        is("book -1", x.book(-1, 0), NONE);
        is("what 4", x.book(0, 4), NONE);
        is("what -1", x.book(0, -1), NONE);
        // a lost one is left alone by A PLAN
        FogArrows y = lostOne();
        tell(y, 2, "at 1 move 0 to 9; at 1 turn 0; at 1 home 0;");
        int lines = y.look(8);
        y.hours(1);
        is("TURNED", y.of(0, 5), 0);
        is("REACH", y.of(0, 2), 3);
        for (int i = lines; i < y.look(8); i++) {
            is("of the other", y.book(i, 2), 1);
        }
    }

    private static void thoughts() {
        about("promise 17");
        FogArrows x = with(10, 0, 3, 1, 0, 3);
        x.set(0, 0, 0);
        x.set(3, 0, 1000);
        x.set(2, 0, 90);
        x.set(5, 0, 5);
        x.set(6, 0, 3);
        x.home(0);
        tell(x, 0, "fade 2;");
        // 5 an hour for the first, 4 for the second: sunk behind 3 hours (12 above 10); ALARM 4 more, then 99 - 2
        is("goes 1 0", x.goes(1, 0), 17);
        is("goes 2 0", x.goes(2, 0), 26);
        is("goes 2 1", x.goes(2, 1), 0);
        is("goes 3 0", x.goes(3, 0), 23);
        is("goes 3 1", x.goes(3, 1), 1);
        is("goes 1 2", x.goes(1, 2), 94);
        is("goes 2 2", x.goes(2, 2), 97);
        is("goes 99 1", x.goes(99, 1), 2);
        is("goes 0", x.goes(0, 0), NONE);
        is("goes 100", x.goes(100, 0), NONE);
        is("what 3", x.goes(1, 3), NONE);
        is("what -1", x.goes(1, -1), NONE);
        is("nothing stays", x.look(1) + x.look(9) + x.look(7) + x.of(0, 4), 0);
        is("lines", x.look(8), 1);
        about("promise 18");
        is("stays 1", x.stays(1), 3);
        is("stays 0", x.stays(0), 21);
        is("stays 2", x.stays(2), NONE);
        is("stays -1", x.stays(-1), NONE);
        is("stays of a lost one", lostOne().stays(0), NONE);
        FogArrows far = with(40, 0, 3);
        far.set(0, 0, 0);
        tell(far, 0, "stick 10; list 98;");
        is("stays 99", far.stays(0), 99);
        tell(far, 0, "stick 10; list 99;");
        is("not by then", far.stays(0), NONE);
        about("promise 19");
        is("keeps 99", far.keeps(99), 99);
        is("keeps 100", far.keeps(100), NONE);
        is("keeps 8", x.keeps(8), 0);
        is("keeps 9", x.keeps(9), 1);
        is("keeps 26", x.keeps(26), 2);
        is("keeps 27", x.keeps(27), 4);
        is("keeps 0", x.keeps(0), NONE);
        is("keeps 10000", x.keeps(10000), NONE);
        is("keeps 9999", x.keeps(9999), NONE);
        for (int i = 0; i < 6; i++) {
            far.set(5, 0, 999);
            far.set(6, 0, 999);
            far.home(0);
        }
        is("keeps 1", far.keeps(1), 0);
        is("keeps 9999", far.keeps(9999), 0);
        is("keeps 10000", far.keeps(10000), NONE);
    }

    private static void turnings() {
        about("promise 20");
        FogArrows x = with(40, 0, 3);
        x.set(0, 0, 0);
        tell(x, 0, "stick 50; list 9;");
        // 5 an hour: all on one side sink behind 2 hours
        is("turnings 1", x.turnings(0, 1, 0), 5);
        is("turnings 1", x.turnings(0, 1, 1), 0);
        is("turnings 2", x.turnings(0, 2, 0), 10);
        is("turnings 2", x.turnings(0, 2, 1), 2);
        is("turnings 3", x.turnings(0, 3, 0), 15);
        is("turnings 3", x.turnings(0, 3, 1), 2);
        is("turnings 4", x.turnings(0, 4, 1), 10);
        is("turnings 10", x.turnings(0, 10, 0), 50);
        // turned ahead of A PLAN, which turns back
        tell(x, 2, "at 1 turn 0;");
        is("turnings 2", x.turnings(0, 2, 1), 0);
        tell(x, 2, "at 1 home 0;");
        is("what it has is on board", x.turnings(0, 2, 0), 5);
        is("boat 1", x.turnings(1, 1, 0), NONE);
        is("boat -1", x.turnings(-1, 1, 0), NONE);
        is("n 0", x.turnings(0, 0, 0), NONE);
        is("n 11", x.turnings(0, 11, 0), NONE);
        is("what 2", x.turnings(0, 1, 2), NONE);
        is("what -1", x.turnings(0, 1, -1), NONE);
        is("nothing stays", x.of(0, 5) + x.look(8), 0);
        tell(x, 0, "stick 50; list 1;");
        is("lost by each", x.turnings(0, 1, 1), NONE);
        is("a lost one", lostOne().turnings(0, 1, 1), NONE);
    }

    private static void lies() {
        about("promise 21");
        FogArrows x = with(10, 0, 3, 1, 0, 8);
        x.set(0, 0, 0);
        x.set(4, 6, 20);
        x.set(4, 9, 21);
        x.set(4, 12, 24);
        // 24 archers: the second is shot 9: afloat; 12 and 9: 21 arrows. In two hours 18 are above its list of 10
        is("lies 1", x.lies(1), 12);
        x.set(4, 2, 0);
        x.set(4, 11, 11);
        // in two hours: 11 archers: 5 and 4 twice: 18 arrows; 10 archers: the same: the least
        is("lies 2", x.lies(2), 0);
        x.set(4, 0, 12);
        is("lies 2", x.lies(2), 0);
        x.set(4, 1, 13);
        is("lies 2", x.lies(2), 1);
        tell(x, 1, "hour 0 drift 1;");
        is("lies 2 by a drift", x.lies(2), 2);
        is("lies 0", x.lies(0), NONE);
        is("lies 21", x.lies(21), NONE);
        is("lies 20", x.lies(20) >= 0 ? 1 : 0, 1);
        is("nothing stays", x.of(0, 2), 3);
        is("lines", x.look(8), 0);
        is("without boats", new FogArrows().lies(1), 0);
    }

    private static void fogs() {
        about("promise 22");
        FogArrows x = new FogArrows();
        is("fogs 0 48", x.fogs(0, 48), 1000000);
        is("fogs 5 0", x.fogs(5, 0), 1000000);
        is("fogs 6 0", x.fogs(6, 0), 0);
        is("fogs 7 2", x.fogs(7, 2), 62500);
        is("fogs -1", x.fogs(-1, 0), NONE);
        is("fogs 10", x.fogs(10, 0), NONE);
        is("n -1", x.fogs(0, -1), NONE);
        is("n 49", x.fogs(0, 49), NONE);
        x.set(0, 0, 9);
        is("at 9 a quarter stays", x.fogs(9, 1), 750000);
        is("fogs 9 2", x.fogs(9, 2), 625000);
        x.set(0, 0, 0);
        is("at 0 a quarter stays", x.fogs(1, 1), 250000);
        // 1000000, then 750000 and 250000; a tenth hour has quarters with a rest, which stays
        int[] p = {1000000, 0, 0, 0, 0, 0, 0, 0, 0, 0};
        for (int n = 0; n < 30; n++) {
            int[] q = new int[10];
            for (int f = 0; f < 10; f++) {
                q[f == 0 ? 0 : f - 1] += p[f] / 4;
                q[f == 9 ? 9 : f + 1] += p[f] / 4;
                q[f] += p[f] - p[f] / 4 * 2;
            }
            p = q;
        }
        is("fogs 9 30", x.fogs(9, 30), p[9]);
        is("look", x.look(2), 0);
    }

    private static void villages() {
        about("promise 23");
        FogArrows x = new FogArrows();
        is("without villages", x.buys(1, 0), NONE);
        tell(x, 3, "village 0 straw 9 talks 1; village 1 straw 8 talks 2; village 2 straw 9; village 4 straw 5 talks 3;");
        is("buys 9", x.buys(9, 1), 1);
        is("buys 10", x.buys(10, 0), 2);
        is("buys 10", x.buys(10, 1), 5);
        is("buys 13", x.buys(13, 1), 5);
        is("buys 18", x.buys(18, 1), 5);
        is("buys 19", x.buys(19, 0), 3);
        is("buys 19", x.buys(19, 1), 21);
        is("buys 24", x.buys(24, 1), NONE);
        is("buys 24", x.buys(24, 0), NONE);
        is("buys 0", x.buys(0, 0), NONE);
        is("buys 1000", x.buys(1000, 0), NONE);
        is("what 2", x.buys(1, 2), NONE);
        is("what -1", x.buys(1, -1), NONE);
        FogArrows rich = new FogArrows();
        tell(rich, 3, "village 0 straw 99;village 1 straw 99;village 2 straw 99;village 3 straw 99;village 4 straw 99;"
            + "village 5 straw 99;village 6 straw 99;village 7 straw 99;village 8 straw 99;village 9 straw 99;"
            + "village 10 straw 99;village 11 straw 99;");
        is("buys 1", rich.buys(1, 1), 1);
        is("buys 999", rich.buys(999, 0), 11);
        is("buys 999", rich.buys(999, 1), 2047);
        is("buys 1000", rich.buys(1000, 1), NONE);
        about("promise 24");
        is("hears 0", x.hears(0), 7);
        is("hears 2", x.hears(2), 7);
        is("hears 4", x.hears(4), 16);
        is("hears 3", x.hears(3), NONE);
        is("hears -1", x.hears(-1), NONE);
        is("hears 12", x.hears(12), NONE);
        about("promise 25");
        is("cuts 0 2", x.cuts(0, 2), 1);
        is("cuts 0 4", x.cuts(0, 4), 0);
        is("cuts 0 1", x.cuts(0, 1), NONE);
        is("cuts 2 2", x.cuts(2, 2), NONE);
        is("cuts 0 3", x.cuts(0, 3), NONE);
        is("cuts 3 0", x.cuts(3, 0), NONE);
        is("cuts -1 0", x.cuts(-1, 0), NONE);
        is("cuts 0 12", x.cuts(0, 12), NONE);
        // 0 and 11 over 1, 2, 3, which 4 joins; and a long way over 5, 6
        takes(x, 3, "village 0 straw 1 talks 1 and 2 and 3 and 5; village 11 straw 1 talks 1 and 2 and 4 and 6;"
            + "village 1 straw 1; village 2 straw 1; village 3 straw 1 talks 4; village 4 straw 1 talks 2;"
            + "village 5 straw 1 talks 6; village 6 straw 1;", 8);
        is("cuts 0 11", x.cuts(0, 11), 4);
        is("cuts 3 6", x.cuts(3, 6), 2);
        is("hears", x.hears(6), 2175);
    }

    private static void counts() {
        about("promise 26");
        FogArrows x = new FogArrows();
        int[][] bad = {{-2, 0}, {31, 0}, {2, 2}, {30, 30}, {5, -1}, {0, -1}, {0, 1001}, {1, 1001}};
        for (int[] b : bad) {
            is("count " + b[0] + " " + b[1], x.count(b[0], b[1]), NONE);
        }
        is("count", x.count(30, 29), 1);
        about("promise 27");
        // 29 and 30 times 0 to 32: all alike by 30; 17 is the first by which two at most are
        is("fits", x.fits(0), 33);
        is("ask", x.fits(3), 17);
        about("promise 26");
        is("nothing is told", x.count(-1, 77), 0);
        about("promise 27");
        is("fits", x.fits(0), 1000);
        is("fits -1", x.fits(-1), NONE);
        is("fits 4", x.fits(4), NONE);
        x.count(1, 500);
        is("least", x.fits(1), 500);
        x.count(0, 503);
        is("fits", x.fits(0), 3);
        is("greatest", x.fits(2), 502);
        // 500, 501, 502: all apart by 3
        is("ask", x.fits(3), 3);
        x.count(2, 0);
        // 500, 502: apart by 3, together by 2
        is("ask", x.fits(3), 3);
        x.count(3, 1);
        is("one", x.fits(0), 1);
        is("least", x.fits(1), 502);
        is("ask", x.fits(3), NONE);
        x.count(0, 0);
        is("none", x.fits(0), 0);
        is("least", x.fits(1), NONE);
        is("greatest", x.fits(2), NONE);
        is("ask", x.fits(3), NONE);
        about("promise 26");
        is("6", x.count(1, 0), 6);
        is("7", x.count(1, 1000), 7);
        is("8", x.count(0, 1000), 8);
        is("9", x.count(0, 1000), NONE);
        is("look", x.look(14), 8);
        is("nothing is told", x.count(-1, 0), 0);
        is("look", x.look(14), 0);
        x.count(0, 8);
        x.count(1, 1);
        x.count(2, 1);
        // 1, 3, 5, 7: two alike by 4; all apart by 5
        about("promise 27");
        is("ask", x.fits(3), 5);
    }

    private static void banks() {
        about("promise 28");
        FogArrows x = new FogArrows();
        no("bank -1", x.bank(-1, 0));
        no("bank 4", x.bank(4, 0));
        no("v -1", x.bank(0, -1));
        no("v 100", x.bank(0, 100));
        about("promise 29");
        is("rests 2", x.rests(2), NONE);
        is("rests -1", x.rests(-1), NONE);
        is("rests", x.rests(0), 0);
        yes("bank", x.bank(0, 99));
        yes("bank", x.bank(1, 0));
        yes("bank", x.bank(2, 0));
        yes("bank", x.bank(3, 99));
        // 99p against 99(1000 - p)
        is("p", x.rests(0), 500);
        is("sum", x.rests(1), 49500);
        x.bank(3, 0);
        // only waiting while they wait costs: always come
        is("p", x.rests(0), 1000);
        is("sum", x.rests(1), 0);
        x.bank(1, 7);
        x.bank(3, 7);
        // they shoot: 7000 whatever we do; they wait: 99(1000 - p), at most 7000 from p 930 on
        is("p", x.rests(0), 930);
        is("sum", x.rests(1), 7000);
    }

    private static void marks() {
        about("promise 30");
        FogArrows x = new FogArrows();
        is("mark 0", x.mark(0), NONE);
        is("mark 1000", x.mark(1000), NONE);
        is("mark -2", x.mark(-2), NONE);
        is("mark", x.mark(2), 1);
        is("mark", x.mark(2), 2);
        is("mark", x.mark(3), 3);
        about("promise 31");
        // 10 by 2, 2, 3 of 7: 2 6/7, 2 6/7, 4 2/7
        is("share", x.share(10, 0), 3);
        is("share", x.share(10, 1), 3);
        is("share", x.share(10, 2), 4);
        // 9: 2 4/7, 2 4/7, 3 6/7
        is("share", x.share(9, 0), 3);
        is("share", x.share(9, 1), 2);
        is("share", x.share(9, 2), 4);
        is("share", x.share(0, 2), 0);
        is("share -1", x.share(-1, 2), NONE);
        is("share 10000", x.share(10000, 2), NONE);
        is("share 9999", x.share(9999, 2), 4285);
        is("owner 3", x.share(1, 3), NONE);
        is("owner -1", x.share(1, -1), NONE);
        about("promise 30");
        is("mark", x.mark(1), 4);
        is("mark", x.mark(999), 5);
        is("mark", x.mark(5), 6);
        is("mark", x.mark(5), NONE);
        is("look", x.look(15), 6);
        is("mark NONE", x.mark(-1), 0);
        is("owner 0", x.share(1, 0), NONE);
        is("look", x.look(15), 0);
    }

    private static void games() {
        about("promise 32");
        FogArrows x = with(1, 0, 0, 1, 0, 0);
        is("game", x.game(0), NONE);
        x.set(5, 1, 7);
        // DRUMS 3: one to four are taken: 7 leaves 2
        is("game", x.game(0), 1);
        is("game", x.game(1), 2);
        x.set(6, 0, 2);
        is("begins badly", x.game(0), NONE);
        is("begins badly", x.game(1), NONE);
        x.set(6, 0, 6);
        // 6 (1) and 7 (2): from 6 one may take 4 and leave 2, as 7: the BOAT is the least
        is("game", x.game(0), 0);
        is("game", x.game(1), 4);
        x.set(1, 0, 0);
        // one by one: 6 and 7
        is("game", x.game(0), 0);
        is("game", x.game(1), 1);
        x.set(5, 0, 1);
        is("game", x.game(0), NONE);
        is("what 2", x.game(2), NONE);
        is("what -1", x.game(-1), NONE);
        FogArrows y = lostOne();
        y.set(5, 0, 3);
        y.home(1);
        is("a lost one is not played with", y.game(0), NONE);
    }

    private static void crowds() {
        about("promise 33");
        FogArrows x = new FogArrows();
        is("none afloat", x.crowd(0), NONE);
        is("none afloat", x.crowd(1), 0);
        is("none afloat", x.crowd(2), 0);
        FogArrows y = with(9, 0, 8, 9, 0, 5, 9, 0, 8, 9, 0, 5, 9, 0, 15);
        y.set(4, 5, 1);
        y.set(4, 15, 2);
        is("crowd", y.crowd(0), 5);
        is("how many", y.crowd(1), 2);
        is("archers", y.crowd(2), 13);
        is("what 3", y.crowd(3), NONE);
        is("what -1", y.crowd(-1), NONE);
        y.set(5, 1, 999);
        y.hours(1);
        is("lost", y.look(7), 2);
        is("crowd", y.crowd(0), 8);
        is("archers", y.crowd(2), 13);
        about("promise 34");
        is("none afloat", x.heavy(0), -1000);
        is("none afloat", x.heavy(1), -1000);
        FogArrows z = with(5, 0, 0, 4, 0, 0, 9, 0, 0, 4, 0, 0);
        is("heavy", z.heavy(0), 1);
        is("heavy", z.heavy(1), 40);
        z.set(5, 2, 70);
        is("heavy", z.heavy(0), 2);
        is("heavy", z.heavy(1), 20);
        z.set(6, 0, 60);
        is("heavy", z.heavy(0), 0);
        is("heavy", z.heavy(1), -10);
        is("what 2", z.heavy(2), -1000);
        is("what -1", z.heavy(-1), -1000);
        z.hours(1);
        is("sunk", z.look(7), 1);
        is("heavy", z.heavy(0), 2);
    }

    private static void undo() {
        about("promise 35");
        FogArrows x = with(10, 0, 3);
        x.set(0, 0, 0);
        no("undo", x.undo());
        x.hours(8);
        is("six are kept", x.look(16), 6);
        int state = x.look(9);
        x.turn(0);
        is("six are kept", x.look(16), 6);
        yes("undo", x.undo());
        is("TURNED", x.of(0, 5), 0);
        is("STATE", x.look(9), state);
        for (int i = 7; i > 2; i--) {
            yes("undo", x.undo());
            is("HOUR", x.look(1), i);
        }
        no("undo", x.undo());
        is("HOUR", x.look(1), 3);
        x.hours(1);
        int lines = x.look(8);
        x.move(0, 9);
        x.home(0);
        is("store", x.look(6) > 0 ? 1 : 0, 1);
        x.undo();
        is("store", x.look(6), 0);
        x.undo();
        is("REACH", x.of(0, 2), 3);
        is("lines", x.look(8), lines);
        x.hours(1);
        keepsAndForgets(x);
    }

    private static void keepsAndForgets(FogArrows x) {
        int kept = x.look(16);
        tell(x, 0, "fade 1;");
        tell(x, 3, "village 1 straw 1;");
        x.count(2, 1);
        x.count(-1, 0);
        x.bank(1, 1);
        x.mark(3);
        x.mark(-1);
        x.image(true);
        x.boat(0, 0, 0);
        x.set(0, 0, 10);
        x.turn(5);
        x.home(5);
        x.move(0, 16);
        x.hours(0);
        tell(x, 1, "hour");
        tell(x, 2, "at");
        tell(x, 7, "at");
        x.goes(5, 0);
        x.lies(2);
        x.turnings(0, 2, 0);
        is("these forget nothing", x.look(16), kept);
        x.state(1);
        is("state forgets", x.look(16), 0);
        x.turn(0);
        x.boat(1, 0, 0);
        is("boat forgets", x.look(16), 0);
        x.turn(0);
        x.set(1, 0, 1);
        is("set forgets", x.look(16), 0);
        x.turn(0);
        tell(x, 1, "hour 1 ebb 1;");
        is("CURRENTS forget", x.look(16), 0);
        x.turn(0);
        tell(x, 2, "");
        is("A PLAN forgets", x.look(16), 0);
        x.turn(0);
        x.image(false);
        is("going back to THE IMAGE forgets", x.look(16), 0);
        no("undo", x.undo());
        // what was told beside does not go back
        x.turn(0);
        tell(x, 0, "fade 9; fade 8;");
        x.mark(4);
        yes("undo", x.undo());
        is("THE LAW", x.look(10), 2);
        is("MARKS", x.look(15), 1);
    }

    private static void image() {
        about("promise 36");
        FogArrows x = with(10, 1, 3);
        x.turn(0);
        no("none yet", x.image(false));
        is("kept", x.look(16), 1);
        x.set(6, 0, 4);
        x.set(4, 2, 33);
        x.set(3, 0, 44);
        x.state(77);
        tell(x, 0, "list 99;");
        tell(x, 1, "hour 3 ebb 2;");
        tell(x, 2, "at 0 turn 0; at 900 drums 1;");
        tell(x, 3, "village 3 straw 4 talks 5; village 5 straw 6; village 6 straw 6;");
        x.count(7, 6);
        x.bank(2, 9);
        x.bank(0, 9);
        x.mark(8);
        x.mark(9);
        x.home(0);
        x.set(5, 0, 5);
        yes("taken", x.image(true));
        int[] looks = new int[17];
        for (int i = 0; i < 17; i++) {
            looks[i] = x.look(i);
        }
        for (int round = 0; round < 2; round++) {
            changeAll(x);
            x.feed(0x20202020, 0x20202020, 0x20202020, 0x20202020, 0x20202020);
            x.turn(0);
            yes("back", x.image(false));
            for (int i = 0; i < 17; i++) {
                is("look " + i, x.look(i), looks[i]);
            }
            is("the TAPE stays", x.feed(0x20202020, 0x20202020, 0x20202020, 0x20202020, 0x20202020), 40);
            is("fault() stays", x.fault(0), 1);
            x.end(0);
            is("LEFT", x.of(0, 3), 5);
            is("RIGHT", x.of(0, 4), 0);
            is("list", x.of(0, 9), 99);
            is("ARCHERS", x.river(2, 0), 33);
            is("current", x.river(0, 1), -2);
            is("village", x.village(3, 1), 32);
            is("fits", x.fits(1), 6);
            is("rests", x.rests(0), 0);
            is("sum", x.rests(1), 9000);
            is("share", x.share(17, 1), 9);
            is("book", x.book(1, 1), 2);
            is("book", x.book(1, 3), 4);
            is("book", x.book(0, 1), 1);
        }
    }

    private static void changeAll(FogArrows x) {
        x.hours(2);
        x.undo();
        x.turn(0);
        x.boat(3, 0, 0);
        for (int w = 0; w < 7; w++) {
            x.set(w, 2, 1);
            x.set(w, 0, 2);
        }
        x.state(5);
        tell(x, 0, "list 98; fade 3;");
        tell(x, 1, "hour 3 drift 2; hour 4 ebb 1;");
        tell(x, 2, "at 0 turn 0;");
        tell(x, 3, "village 3 straw 5;");
        tell(x, 3, "village 3 straw 5");
        x.count(-1, 0);
        x.count(9, 5);
        x.bank(2, 1);
        x.bank(3, 90);
        x.mark(-1);
        x.mark(3);
    }

    private static void looks() {
        about("promise 37");
        FogArrows x = with(10, 0, 3, 1, 0, 4);
        x.set(0, 0, 8);
        x.set(1, 0, 7);
        x.set(2, 0, 60);
        x.set(3, 0, 500);
        tell(x, 0, "fade 1; fade 2;");
        tell(x, 1, "hour 1 ebb 1; hour 2 ebb 1; hour 3 ebb 1;");
        tell(x, 2, "at 5 turn 0; at 6 turn 0; at 7 turn 0; at 8 turn 0;");
        tell(x, 3, "village 1 straw 1;");
        x.count(0, 9);
        x.count(0, 9);
        x.mark(1);
        x.mark(1);
        x.mark(1);
        x.state(-3);
        x.turn(0);
        int[] due = {2, 0, 8, 7, 60, 500, 0, 0, 1, -3, 2, 3, 4, 1, 2, 3, 1};
        for (int i = 0; i < 17; i++) {
            is("look " + i, x.look(i), due[i]);
        }
        is("look 17", x.look(17), NONE);
        is("look -1", x.look(-1), NONE);
        FogArrows y = with(1, 0, 0, 1, 0, 0, 1, 0, 0, 1, 0, 0);
        y.set(5, 1, 900);
        y.set(5, 3, 900);
        y.home(0);
        y.hours(1);
        is("lost", y.look(7), 10);
        is("HOUR", y.look(1), 1);
    }

    private static void readme() {
        about("README.md");
        FogArrows x = new FogArrows();
        is("boat", x.boat(30, 0, 4), 0);
        yes("set", x.set(0, 0, 2));
        is("feed", x.feed(0x66616465, 0x20333b20, 0x20202020, 0x20202020, 0x20202020), 20);
        yes("end", x.end(7));
        is("text", x.text(0), 1);
        is("hours", x.hours(3), 10);
        is("goes", x.goes(5, 0), 20);
        is("home", x.home(0), 10);
        yes("undo", x.undo());
        is("store", x.look(6), 0);
        takes(x, 0, "shot archers - 2*fog when drums < 3 or not (fog > 4 and hour = 0);", 1);
        takes(x, 1, "hour 18 ebb 2;", 1);
        takes(x, 2, "at 6 move 0 to 9;", 1);
        takes(x, 3, "village 0 straw 20 talks 1 and 4;", 1);
    }

    public static void main(String[] args) {
        newObject();
        state();
        boat();
        set();
        turn();
        home();
        move();
        hours();
        tape();
        texts();
        of();
        river();
        village();
        book();
        thoughts();
        turnings();
        lies();
        fogs();
        villages();
        counts();
        banks();
        marks();
        games();
        crowds();
        undo();
        image();
        looks();
        readme();
        end("promises");
    }
}
