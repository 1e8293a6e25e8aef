/** What the tests share: an answer held against the one that is due, texts told to an object, all that can be seen. */
class Checks {
    static final int NONE = -1;
    static final int MAX = Integer.MAX_VALUE;
    static final int MIN = Integer.MIN_VALUE;
    private static int wrong = 0;
    private static String about = "";

    /** What is tested from here on: a promise, or a sentence of the document. */
    static void about(String what) {
        about = what;
    }

    static void is(String call, int got, int want) {
        if (got != want) {
            wrong++;
            System.out.println(about + ": " + call + " answered " + got + ", due is " + want);
        }
    }

    static void yes(String call, boolean got) {
        is(call, got ? 1 : 0, 1);
    }

    static void no(String call, boolean got) {
        is(call, got ? 1 : 0, 0);
    }

    /** Each of the answers must be the one that is due. */
    static void each(String call, int want, int... got) {
        for (int i = 0; i < got.length; i++) {
            is(call + ", " + i, got[i], want);
        }
    }

    static void none(String call, int... got) {
        each(call, NONE, got);
    }

    static void refused(String call, boolean... got) {
        for (int i = 0; i < got.length; i++) {
            no(call + ", " + i, got[i]);
        }
    }

    static void row(String call, int[] got, int... want) {
        is(call + ": how many", got.length, want.length);
        for (int i = 0; i < want.length && i < got.length; i++) {
            is(call + ", " + i, got[i], want[i]);
        }
    }

    /** Feeds a text to an empty TAPE and tells it. */
    static int tell(FogArrows x, int k, String text) {
        feed(x, text);
        return x.text(k);
    }

    static void feed(FogArrows x, String text) {
        for (int i = 0; i < text.length(); i += 20) {
            int[] n = new int[5];
            for (int j = 0; j < 20; j++) {
                int c = i + j < text.length() ? text.charAt(i + j) : 0;
                n[j / 4] |= c << 24 - 8 * (j % 4);
            }
            x.feed(n[0], n[1], n[2], n[3], n[4]);
        }
        x.end(text.length());
    }

    static void refuses(FogArrows x, int k, String text, int fault, int at) {
        is("text " + k + " of " + text, tell(x, k, text), NONE);
        is("fault(0) of " + text, x.fault(0), fault);
        is("fault(1) of " + text, x.fault(1), at);
    }

    static void takes(FogArrows x, int k, String text, int lines) {
        is("text " + k + " of " + text, tell(x, k, text), lines);
        is("fault(0) of " + text, x.fault(0), 0);
        is("fault(1) of " + text, x.fault(1), NONE);
    }

    static String times(String s, int n) {
        return s.repeat(n);
    }

    /** A new river with boats, of each straw, kind, reach. */
    static FogArrows with(int... boats) {
        FogArrows x = new FogArrows();
        for (int i = 0; i + 2 < boats.length; i += 3) {
            x.boat(boats[i], boats[i + 1], boats[i + 2]);
        }
        return x;
    }

    /** BOAT 0 is sunk in the HOUR that has gone by, BOAT 1 is afloat. */
    static FogArrows lostOne() {
        FogArrows x = with(1, 0, 3, 1, 0, 3);
        x.set(0, 0, 0);
        x.set(5, 0, 500);
        x.hours(1);
        return x;
    }

    /** What a refused call must leave as it is: all that look tells, the BOATS, the latest lines of THE BOOK. */
    static int[] seen(FogArrows x) {
        int boats = Math.min(3, x.look(0));
        int lines = Math.min(3, x.look(8));
        int[] all = new int[17 + 7 * boats + 4 * lines];
        int n = 0;
        for (int i = 0; i < 17; i++) {
            all[n++] = x.look(i);
        }
        for (int b = 0; b < boats; b++) {
            for (int w = 0; w < 7; w++) {
                all[n++] = x.of(b, w);
            }
        }
        for (int i = x.look(8) - lines; i < x.look(8); i++) {
            for (int w = 0; w < 4; w++) {
                all[n++] = x.book(i, w);
            }
        }
        return all;
    }

    static int[] line(FogArrows x, int i) {
        return new int[] {x.book(i, 0), x.book(i, 1), x.book(i, 2), x.book(i, 3)};
    }

    static int[] latest(FogArrows x) {
        return line(x, x.look(8) - 1);
    }

    static void end(String name) {
        System.out.println(name + (wrong == 0 ? ": all answers are as due" : ": " + wrong + " answers are wrong"));
        if (wrong != 0) {
            System.exit(1);
        }
    }
}
