/** A test for each sentence of UNDO, THE IMAGE and promises 35 to 37 that names a bound. */
public final class FogArrowsUndoEdges extends Checks {
    /** Two BOATS that all that an HOUR may do is done to, the second by and by. */
    private static FogArrows busy() {
        FogArrows x = with(10, 0, 3, 40, 1, 8);
        x.set(0, 0, 2);
        x.set(3, 0, 40);
        x.set(2, 0, 60);
        tell(x, 1, "hour 0 drift 1;hour 3 ebb 2;");
        tell(x, 2, "at 0 turn 0;at 1 home 0;at 1 move 1 to 4;at 2 drums 9;at 4 turn 1;at 5 home 1;");
        tell(x, 0, "list 13 when straw=10;fade 2;");
        return x;
    }

    private static void nothing() {
        about("Promise 35: false if there is nothing");
        FogArrows x = new FogArrows();
        int[] before = seen(x);
        refused("at first", x.undo(), x.undo());
        row("nothing is done", seen(x), before);
        x.hours(1);
        yes("one", x.undo());
        refused("no more", x.undo());
        is("HOUR", x.look(1), 0);
    }

    private static void six() {
        about("4: UNDO: 6 are kept");
        FogArrows x = with(9, 0, 3);
        for (int i = 1; i < 10; i++) {
            x.move(0, i);
            is("kept", x.look(16), Math.min(6, i));
        }
        for (int i = 8; i > 2; i--) {
            yes("undo", x.undo());
            is("REACH", x.of(0, 2), i);
            is("lines", x.look(8), i);
            is("kept", x.look(16), i - 3);
        }
        refused("the seventh", x.undo());
        is("REACH", x.of(0, 2), 3);
        about("4: each HOUR by itself");
        FogArrows y = new FogArrows();
        y.hours(60);
        is("kept", y.look(16), 6);
        for (int i = 59; i > 53; i--) {
            yes("undo", y.undo());
            is("HOUR", y.look(1), i);
        }
        refused("no more", y.undo());
        y.hours(5);
        is("kept", y.look(16), 5);
        about("4: not undone yet");
        FogArrows z = with(9, 0, 3);
        z.move(0, 1);
        z.move(0, 2);
        z.undo();
        z.move(0, 4);
        z.undo();
        is("the first is left", z.of(0, 2), 1);
        z.undo();
        is("none is left", z.of(0, 2), 3);
        refused("no more", z.undo());
        // the ring of six goes round
        for (int i = 0; i < 40; i++) {
            z.move(0, i % 16);
            if (i % 3 == 2) {
                z.undo();
            }
        }
        // by 39; ahead of it by 37, 36, 34, 33, 31, 30
        is("REACH", z.of(0, 2), 7);
        int[] reaches = {5, 4, 2, 1, 15, 14};
        for (int r : reaches) {
            yes("undo", z.undo());
            is("REACH", z.of(0, 2), r);
        }
        refused("no more", z.undo());
    }

    private static void goesBack() {
        about("4: the latest HOUR, turning, going home, moving goes back (STATE, THE BOOK, too)");
        for (int n = 0; n < 6; n++) {
            FogArrows x = busy();
            if (n > 0) {
                x.hours(n);
            }
            int[] before = seenButKept(x);
            x.hours(1);
            int[] after = seenButKept(x);
            yes("undo", x.undo());
            row("as at " + n, seenButKept(x), before);
            x.hours(1);
            row("again " + n, seenButKept(x), after);
        }
        FogArrows x = busy();
        int[] first = seenButKept(x);
        x.hours(6);
        for (int i = 0; i < 6; i++) {
            yes("undo", x.undo());
        }
        row("as at first", seenButKept(x), first);
        FogArrows y = busy();
        y.set(5, 1, 77);
        y.hours(1);
        int[] before = seenButKept(y);
        y.turn(1);
        yes("turning", y.undo());
        row("as it was", seenButKept(y), before);
        y.home(1);
        yes("going home", y.undo());
        row("as it was", seenButKept(y), before);
        y.move(1, 0);
        yes("moving", y.undo());
        row("as it was", seenButKept(y), before);
        about("4: one that was LOST is not LOST");
        FogArrows z = with(1, 0, 3, 1, 0, 3);
        z.set(5, 1, 30);
        z.set(6, 1, 7);
        z.hours(1);
        is("LOST", z.look(7), 2);
        yes("undo", z.undo());
        row("not LOST", new int[] {z.look(7), z.of(1, 3), z.of(1, 4), z.look(8)}, 0, 30, 7, 0);
        about("4: a full BOOK");
        FogArrows b = with(1, 0, 3);
        for (int i = 0; i < 151; i++) {
            b.move(0, i % 16);
        }
        b.undo();
        is("the 151st had no line", b.look(8), 150);
        b.undo();
        is("the 150th had", b.look(8), 149);
        none("gone", b.book(149, 0));
        b.turn(0);
        row("another one", line(b, 149), 0, 1, 0, 0);
        row("the one ahead of it", line(b, 148), 0, 5, 0, 4);
    }

    private static int[] seenButKept(FogArrows x) {
        int[] all = seen(x);
        all[16] = 0;
        return all;
    }

    private interface Call {
        void on(FogArrows x);
    }

    private static FogArrows turned() {
        FogArrows x = with(9, 0, 3, 9, 0, 3);
        tell(x, 0, "fade 1;");
        tell(x, 1, "hour 1 ebb 1;");
        tell(x, 2, "at 900 drums 1;");
        tell(x, 3, "village 1 straw 1;");
        x.count(2, 1);
        x.mark(7);
        x.bank(0, 5);
        x.image(true);
        x.turn(0);
        x.hours(2);
        return x;
    }

    private static void forgets(String what, Call call) {
        FogArrows x = turned();
        call.on(x);
        is(what + " forgets them", x.look(16), 0);
        refused(what + " forgets them", x.undo());
    }

    private static void keeps(String what, Call call) {
        FogArrows x = turned();
        call.on(x);
        is(what + " does not forget them", x.look(16), 3);
        yes("undo", x.undo());
        is("HOUR behind " + what, x.look(1), 1);
        x.undo();
        x.undo();
        is("TURNED behind " + what, x.of(0, 5), 0);
    }

    private static void forgetting() {
        about("4: whatever else is told forgets them");
        forgets("state", x -> x.state(0));
        forgets("boat", x -> x.boat(1, 0, 0));
        for (int what = 0; what < 7; what++) {
            int w = what;
            forgets("set " + w, x -> x.set(w, 0, 1));
        }
        forgets("FOG as it is", x -> x.set(0, 0, x.look(2)));
        forgets("CURRENTS", x -> tell(x, 1, "hour 1 ebb 1;"));
        forgets("empty CURRENTS", x -> x.text(1));
        forgets("A PLAN", x -> tell(x, 2, "at 1 turn 0;"));
        forgets("an empty PLAN", x -> x.text(2));
        forgets("going back to THE IMAGE", x -> x.image(false));
        about("4: but THE LAW, VILLAGES, COUNT, BANK, MARKS; the taking of THE IMAGE does not");
        keeps("THE LAW", x -> tell(x, 0, "fade 2;"));
        keeps("an empty LAW", x -> x.text(0));
        keeps("VILLAGES", x -> tell(x, 3, "village 2 straw 2;"));
        keeps("no VILLAGES", x -> x.text(3));
        keeps("COUNT", x -> x.count(3, 1));
        keeps("no COUNT", x -> x.count(NONE, 0));
        keeps("BANK", x -> x.bank(0, 1));
        keeps("MARKS", x -> x.mark(1));
        keeps("no MARKS", x -> x.mark(NONE));
        keeps("the taking", x -> x.image(true));
        about("4: what is refused is not told");
        keeps("boat", x -> x.boat(0, 0, 0));
        keeps("set", x -> x.set(0, 0, 10));
        keeps("set", x -> x.set(7, 0, 0));
        keeps("set", x -> x.set(5, 2, 0));
        keeps("turn", x -> x.turn(2));
        keeps("home", x -> x.home(2));
        keeps("move", x -> x.move(0, 16));
        keeps("hours", x -> x.hours(61));
        keeps("CURRENTS", x -> tell(x, 1, "hour"));
        keeps("A PLAN", x -> tell(x, 2, "at 1 turn 2;"));
        keeps("no such text", x -> tell(x, 4, ""));
        keeps("feed, end", x -> feed(x, "at 1"));
        keeps("what is asked", x -> {
            x.goes(9, 0);
            x.stays(0);
            x.keeps(5);
            x.turnings(0, 3, 0);
            x.lies(3);
            x.fogs(1, 1);
            x.look(16);
        });
        about("4: what was told beside does not go back");
        FogArrows x = turned();
        tell(x, 0, "fade 2;fade 3;");
        tell(x, 3, "");
        x.count(3, 1);
        x.mark(8);
        x.bank(0, 6);
        x.undo();
        x.undo();
        row("told", new int[] {x.look(10), x.look(13), x.look(14), x.look(15), x.share(15, 1)}, 2, 0, 2, 2, 8);
        x.bank(2, 6);
        is("BANK", x.rests(1), 6000);
    }

    private static void images() {
        about("Promise 36: false if there is none");
        FogArrows x = with(9, 0, 3);
        x.turn(0);
        int[] before = seen(x);
        refused("none", x.image(false), x.image(false));
        row("nothing is done", seen(x), before);
        about("4: THE IMAGE of nothing");
        FogArrows y = new FogArrows();
        yes("taken", y.image(true));
        y.boat(40, 2, 15);
        y.set(5, 0, 99);
        y.home(0);
        y.hours(3);
        tell(y, 0, "fade 1;");
        y.feed(1, 2, 3, 4, 5);
        yes("gone back to", y.image(false));
        for (int i = 0; i < 17; i++) {
            is("look " + i, y.look(i), i == 2 ? 5 : i == 3 ? 3 : 0);
        }
        none("no BOAT, no line", y.of(0, 0), y.book(0, 0));
        is("the next BOAT is the first", y.boat(1, 0, 2), 0);
        row("a new one", new int[] {y.of(0, 0), y.of(0, 1), y.of(0, 2), y.of(0, 3), y.of(0, 4), y.of(0, 5), y.of(0, 6)},
            1, 0, 2, 0, 0, 0, 0);
        about("4: but the TAPE, fault()");
        is("the TAPE", y.feed(1, 2, 3, 4, 5), 40);
        y.text(0);
        is("fault(0)", y.fault(0), 1);
        yes("gone back to", y.image(false));
        is("fault(0)", y.fault(0), 1);
        is("fault(1)", y.fault(1), 0);
        about("4: as it was when it was taken; of two the latter one");
        FogArrows z = with(9, 0, 3);
        z.image(true);
        z.move(0, 4);
        z.image(true);
        z.move(0, 5);
        for (int i = 0; i < 3; i++) {
            yes("gone back to", z.image(false));
            is("REACH", z.of(0, 2), 4);
            is("lines", z.look(8), 1);
            is("nothing to be undone", z.look(16), 0);
            refused("nothing to be undone", z.undo());
            z.move(0, 9 + i);
            z.turn(0);
            z.boat(1, 1, 1);
        }
        about("4: THE BOOK as it was when THE IMAGE was taken");
        FogArrows w = with(9, 0, 3);
        w.move(0, 4);
        w.move(0, 5);
        w.image(true);
        w.undo();
        w.undo();
        w.turn(0);
        w.home(0);
        w.move(0, 9);
        w.image(false);
        is("lines", w.look(8), 2);
        row("the first", line(w, 0), 0, 5, 0, 4);
        row("the second", line(w, 1), 0, 5, 0, 5);
        about("4: what was undone ahead of the taking, behind it");
        FogArrows u = with(9, 0, 3);
        u.move(0, 4);
        u.move(0, 5);
        u.image(true);
        yes("undo", u.undo());
        is("REACH", u.of(0, 2), 4);
        yes("gone back to", u.image(false));
        is("REACH", u.of(0, 2), 5);
        refused("nothing to be undone", u.undo());
    }

    private static void allOfIt() {
        about("4: THE IMAGE: all that is and was told");
        FogArrows x = busy();
        x.boat(7, 2, 15);
        x.set(4, 0, 1);
        x.set(4, 15, 99);
        x.set(5, 2, 3);
        x.state(-5);
        tell(x, 3, "village 3 straw 4 talks 5;village 5 straw 6;village 11 straw 99 talks 3;");
        x.count(7, 6);
        x.count(1, 13);
        x.bank(0, 1);
        x.bank(1, 2);
        x.bank(2, 30);
        x.bank(3, 4);
        x.mark(8);
        x.mark(9);
        x.home(2);
        x.hours(1);
        int[] before = allSeen(x);
        x.image(true);
        for (int round = 0; round < 2; round++) {
            another(x, round);
            x.image(false);
            int[] after = allSeen(x);
            row("as it was", after, before);
        }
        about("4: it goes on from it in the same way");
        FogArrows y = busy();
        y.hours(2);
        y.image(true);
        y.hours(4);
        int[] then = seenButKept(y);
        another(y, 0);
        y.image(false);
        y.hours(4);
        row("four HOURS on", seenButKept(y), then);
    }

    private static void another(FogArrows x, int round) {
        x.hours(3);
        x.boat(40, 2, 1);
        x.boat(39, 1, 2);
        for (int what = 0; what < 7; what++) {
            x.set(what, 0, 5 + round);
            x.set(what, 2, 6);
            x.set(what, 15, 7);
        }
        x.move(1, 14);
        x.state(123);
        tell(x, 0, round == 0 ? "" : "stick 1;stick 2;list 1+2+3+4+5+6+7+8+9 when not 1<2 or fog=drums;shot 99;fade 77;");
        tell(x, 1, round == 0 ? "hour 4 drift 5;" : "hour 0 ebb 5;hour 9 ebb 4;hour 11 drift 3;");
        tell(x, 2, round == 0 ? "" : "at 9 turn 3;at 9 home 3;at 9 drums 0;at 9 move 0 to 9;at 1 drums 1;at 2 drums 2;at 3 drums 3;");
        tell(x, 3, round == 0 ? "" : "village 3 straw 5 talks 11 and 5 and 4;village 4 straw 9;village 5 straw 1 talks 4;");
        x.count(NONE, 0);
        x.count(2 + round, 1);
        for (int k = 0; k < 4; k++) {
            x.bank(k, 90 + k);
        }
        x.mark(NONE);
        x.mark(1);
        x.mark(2);
        x.mark(3);
    }

    private static int[] allSeen(FogArrows x) {
        int[] some = {x.of(0, 7), x.of(0, 8), x.of(0, 9), x.of(1, 8), x.of(1, 9), x.of(2, 9), x.river(0, 0), x.river(15, 0),
            x.river(7, 0), x.river(0, 1), x.river(3, 1), x.river(11, 1), x.village(3, 0), x.village(3, 1), x.village(4, 0),
            x.village(5, 1), x.village(11, 0), x.village(11, 1), x.fits(0), x.fits(1), x.fits(2), x.rests(0), x.rests(1),
            x.share(100, 0), x.share(100, 1), x.share(100, 2), x.goes(1, 0), x.goes(2, 2), x.goes(3, 0), x.goes(5, 0),
            x.goes(6, 0), x.stays(0), x.stays(1), x.turnings(1, 5, 1), x.lies(4), x.heavy(1), x.crowd(2)};
        int[] more = seenButKept(x);
        int[] all = new int[some.length + more.length];
        System.arraycopy(some, 0, all, 0, some.length);
        System.arraycopy(more, 0, all, some.length, more.length);
        return all;
    }

    private static void looks() {
        about("Promise 37: NONE for another what; STATE, ARROWS as they are");
        FogArrows x = with(1, 0, 0);
        none("what", x.look(-1), x.look(17), x.look(MAX), x.look(MIN));
        x.state(NONE);
        is("STATE NONE", x.look(9), NONE);
        x.state(MIN);
        is("the least STATE", x.look(9), MIN);
        for (int i = 0; i < 51; i++) {
            x.set(5, 0, 999);
            x.set(6, 0, 999);
            x.home(0);
        }
        is("ARROWS beyond 99999", x.look(6), 101898);
        about("Promise 37: what 0 .. 16");
        FogArrows y = busy();
        y.set(5, 0, 999);
        y.home(1);
        y.turn(0);
        y.hours(1);
        y.turn(1);
        tell(y, 3, "village 1 straw 1;village 2 straw 1;village 3 straw 1;");
        y.count(2, 0);
        y.mark(1);
        y.mark(1);
        // FOG 2 stays by the first DRAW for it; 0 is sunk, 1 has no FIRE by the first DRAW, 903
        row("look", new int[] {y.look(0), y.look(1), y.look(3), y.look(5), y.look(7), y.look(10), y.look(11), y.look(12),
            y.look(13), y.look(14), y.look(15), y.look(16)}, 2, 1, 3, 40, 1, 2, 2, 6, 3, 1, 2, 4);
        is("ALARM: twice 3 more, 2 less", y.look(4), 64);
    }

    public static void main(String[] args) {
        nothing();
        six();
        goesBack();
        forgetting();
        images();
        allOfIt();
        looks();
        end("edges of undo and image");
    }
}
