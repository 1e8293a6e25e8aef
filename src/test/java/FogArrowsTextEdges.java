/** A test for each sentence of "2. TEXTS" and promises 9 to 12, 15 that names a bound. */
public final class FogArrowsTextEdges extends Checks {
    private static final String WHEN = "list 9 when ";

    private static int blanks(FogArrows x) {
        return x.feed(0x20202020, 0x20202020, 0x20202020, 0x20202020, 0x20202020);
    }

    private static void tape() {
        about("Promise 9: twenty bytes come behind the TAPE, of each number the highest first");
        FogArrows x = new FogArrows();
        // "fade 7;list 8;shot 9"
        is("twenty", x.feed(0x66616465, 0x20373b6c, 0x69737420, 0x383b7368, 0x6f742039), 20);
        is("forty", x.feed(0x3b000000, 0, 0, 0, 0), 40);
        yes("end", x.end(21));
        is("text", x.text(0), 3);
        about("Promise 9: bytes are without sign");
        x.feed(-1, -1, -1, -1, -1);
        is("text", x.text(0), NONE);
        is("fault(0)", x.fault(0), 1);
        x.feed(0x66616465, 0x2037bb00, 0, 0, 0);
        is("187 is not 59", x.text(0), NONE);
        is("fault(1)", x.fault(1), 6);
        about("Promise 9: NONE, and nothing comes, if there would be more than 400");
        for (int i = 1; i <= 20; i++) {
            is("feed", blanks(x), 20 * i);
        }
        none("the 401st", blanks(x), blanks(x));
        is("nothing has come", x.text(1), 0);
        is("behind 380", feedAgain(x, 380), 400);
        is("behind 381", feedAgain(x, 381), NONE);
        refused("it still has 381", x.end(382));
        yes("it still has 381", x.end(381));
        about("Promise 10: false, changing nothing, if it has not so many, or n is below 0");
        FogArrows y = new FogArrows();
        refused("an empty one", y.end(1), y.end(-1), y.end(MAX), y.end(MIN), y.end(20));
        yes("none of none", y.end(0));
        blanks(y);
        refused("of twenty", y.end(21), y.end(-1), y.end(MAX), y.end(MIN), y.end(400));
        yes("all of them", y.end(20));
        is("as it was", blanks(y), 40);
        yes("one less", y.end(39));
        refused("they are gone", y.end(40));
        is("behind them", blanks(y), 59);
        yes("none", y.end(0));
        refused("they are gone", y.end(1));
        is("behind none", blanks(y), 20);
        y.end(0);
        feed(y, "fade 1;fade 2;");
        y.end(9);
        y.end(7);
        is("its first 7 bytes", y.text(0), 1);
    }

    private static int feedAgain(FogArrows x, int n) {
        x.end(0);
        for (int i = 0; i < 20; i++) {
            blanks(x);
        }
        x.end(n);
        return blanks(x);
    }

    private static void told() {
        about("2: TEXTS are empty at first; an empty one, one of blanks has no lines");
        for (int k = 0; k < 4; k++) {
            FogArrows x = with(1, 0, 0);
            takes(x, k, "", 0);
            takes(x, k, " \n \n", 0);
            String line = new String[] {"fade 1;", "hour 1 ebb 1;", "at 1 turn 0;", "village 1 straw 1;"}[k];
            takes(x, k, line, 1);
            is("look", x.look(10 + k), 1);
            about("Promise 11: the TAPE is empty then, the TEXT as it was at a FAULT");
            refuses(x, k, line + "x", 1, line.length());
            is("look", x.look(10 + k), 1);
            is("the TAPE", blanks(x), 20);
            x.end(0);
            takes(x, k, line, 1);
            is("the TAPE", blanks(x), 20);
            takes(x, k, "", 0);
            is("a TEXT may be empty again", x.look(10 + k), 0);
            refuses(x, k, line.substring(0, line.length() - 1), 1, line.length() - 1);
        }
        about("Promise 11: NONE: no such one (fault() tells 0)");
        FogArrows x = new FogArrows();
        for (int k : new int[] {-1, 4, MAX, MIN}) {
            refuses(x, 0, "fade x;", 1, 5);
            is("text " + k, tell(x, k, "fade x;"), NONE);
            is("fault(0)", x.fault(0), 0);
            is("fault(1)", x.fault(1), NONE);
            is("the TAPE, empty then", blanks(x), 20);
            x.end(0);
        }
        each("no TEXT is told", 0, x.look(10), x.look(11), x.look(12), x.look(13));
        about("Promise 12: of the latest text(): 0 without a FAULT, its place NONE; NONE for another what");
        is("at first", new FogArrows().fault(0), 0);
        is("at first", new FogArrows().fault(1), NONE);
        refuses(x, 0, "fade 1/0;", 2, 7);
        none("another what", x.fault(-1), x.fault(2), x.fault(MAX), x.fault(MIN));
        blanks(x);
        x.end(0);
        x.boat(0, 0, 0);
        is("till the next text()", x.fault(0), 2);
        is("till the next text()", x.fault(1), 7);
        takes(x, 0, "fade 1/1;", 1);
        refuses(x, 0, "", 0, NONE, 0);
    }

    private static void refuses(FogArrows x, int k, String text, int fault, int at, int lines) {
        is("text", tell(x, k, text), lines);
        is("fault(0)", x.fault(0), fault);
        is("fault(1)", x.fault(1), at);
    }

    private static void lines() {
        about("2: 16 lines of each at most; 3 (at its KEYWORD) the 17th line");
        String[] line = {"fade 1;", "hour 1 ebb 1;", "at 1 turn 0;"};
        for (int k = 0; k < 3; k++) {
            int n = 16 * line[k].length();
            FogArrows x = with(1, 0, 0);
            takes(x, k, times(line[k], 16), 16);
            takes(x, k, times(line[k], 15), 15);
            takes(x, k, times(line[k], 16) + " \n ", 16);
            refuses(x, k, times(line[k], 17), 3, n);
            refuses(x, k, times(line[k], 16) + " \n" + line[k], 3, n + 2);
            is("as it was", x.look(10 + k), 16);
            about("2: at one place the least: what can't stand there ahead of the 17th line");
            refuses(x, k, times(line[k], 16) + "when", 1, n);
            refuses(x, k, times(line[k], 16) + ";", 1, n);
            refuses(x, k, times(line[k], 16) + "7", 1, n);
            about("2: the first by its place: the 17th line ahead of what is wrong in it");
            refuses(x, k, times(line[k], 16) + line[k].substring(0, 4) + " x", 3, n);
            refuses(x, k, times(line[k], 15) + line[k].substring(0, 4) + " x", 1, n - line[k].length() + 5);
        }
        about("2: VILLAGE 0 .. 11, each once: all twelve, no more");
        FogArrows x = new FogArrows();
        StringBuilder all = new StringBuilder();
        for (int v = 11; v >= 0; v--) {
            all.append("village ").append(v).append(" straw ").append(v == 0 ? 1 : 99).append(';');
        }
        takes(x, 3, all.toString(), 12);
        refuses(x, 3, all + "village 5", 2, all.length() + 8);
        refuses(x, 3, all + "village 12", 2, all.length() + 8);
        is("the last", x.village(11, 0), 99);
        is("the first", x.village(0, 0), 1);
    }

    private static void tokens() {
        about("2: letters as many as stand together are KEYWORDS or none");
        FogArrows x = new FogArrows();
        refuses(x, 0, "fad 1;", 1, 0);
        refuses(x, 0, "fadex 1;", 1, 0);
        refuses(x, 0, "fadefade 1;", 1, 0);
        refuses(x, 0, "fade fogdrums;", 1, 5);
        refuses(x, 0, "fa de 1;", 1, 0);
        refuses(x, 0, "FADE 1;", 1, 0);
        refuses(x, 0, "fade 1 whenfog<1;", 1, 7);
        refuses(x, 0, "fade Fog;", 1, 5);
        refuses(x, 0, "fadeZ 1;", 1, 0);
        takes(x, 0, "fade1when1<2and 3<4or5<6;", 1);
        takes(x, 0, "fade1\nwhen\n1<2;fade 1;", 2);
        about("2: those told for that text");
        refuses(x, 0, "hour 1;", 1, 0);
        refuses(x, 0, "fade drift;", 1, 5);
        refuses(x, 0, "fade shot;", 1, 5);
        refuses(x, 0, "fade village;", 1, 5);
        refuses(x, 1, "hour 1 shot 1;", 1, 7);
        refuses(x, 1, "fog 1 ebb 1;", 1, 0);
        refuses(x, 2, "at 1 ebb 1;", 1, 5);
        refuses(x, 2, "at 1 fog 1;", 1, 5);
        refuses(x, 3, "village 1 fog 1;", 1, 10);
        refuses(x, 3, "at 1 straw 1;", 1, 0);
        about("2: digits as many as stand together are NUMBERS of 1 to 4 digits or none");
        FogArrows y = with(1, 0, 0);
        takes(y, 0, "fade 9999;fade 0000;fade 0012;fade 3;", 4);
        refuses(y, 0, "fade 10000;", 1, 5);
        refuses(y, 0, "fade 00001;", 1, 5);
        refuses(y, 0, "fade 1 2;", 1, 7);
        refuses(y, 0, "fade 99999999999999999999;", 1, 5);
        refuses(y, 0, "fade 1 / 00001;", 1, 9);
        refuses(y, 1, "hour 00001 ebb 1;", 1, 5);
        takes(y, 1, "hour 0001 ebb 0005;", 1);
        refuses(y, 2, "at 00001 turn 0;", 1, 3);
        takes(y, 2, "at 0999 turn 0000;", 1);
        refuses(y, 3, "village 00001 straw 1;", 1, 8);
        about("2: blanks (32, 10) between");
        takes(y, 0, "\n fade \n\n 1 ; \n", 1);
        for (char c : new char[] {0, 9, 11, 12, 13, 31, 33, 127, 160, 255, '.', ',', ':', '[', '{', '`', '@', '_', '&'}) {
            refuses(y, 0, "fade 1" + c + ";", 1, 6);
            refuses(y, 0, c + "fade 1;", 1, 0);
        }
        about("2: what can't stand there (the end: the text's length)");
        refuses(y, 0, "fade", 1, 4);
        refuses(y, 0, "fade  \n", 1, 7);
        refuses(y, 0, "fade 1", 1, 6);
        refuses(y, 0, "fade 1;fade 1 ", 1, 14);
        refuses(y, 0, times(" ", 395) + "fade ", 1, 400);
        takes(y, 0, times(" ", 393) + "fade 1;", 1);
    }

    private static void sums() {
        about("2: the grammar of E");
        FogArrows x = new FogArrows();
        String[] bad = {"fade ;", "fade +1;", "fade -1;", "fade 1+;", "fade 1 + - 2;", "fade 1**2;", "fade *1;", "fade 1//2;",
            "fade 1 2;", "fade fog fog;", "fade (1);", "fade 1<2;", "fade 1=1;", "fade 1 and 1;", "fade 1);", ";", "1;",
            "fade when 1<2;", "fade 1;;", "not fade 1;"};
        int[] at = {5, 5, 5, 7, 9, 7, 5, 7, 7, 9, 5, 6, 6, 7, 6, 0, 0, 5, 7, 0};
        for (int i = 0; i < bad.length; i++) {
            refuses(x, 0, bad[i], 1, at[i]);
        }
        about("2: T {* U | / NUMBER}: a part by a NUMBER alone");
        refuses(x, 0, "fade 5 / fog;", 1, 9);
        refuses(x, 0, "fade 5 / ;", 1, 9);
        about("2: 2 (at the NUMBER) a part by 0");
        refuses(x, 0, "fade 5 / 0;", 2, 9);
        refuses(x, 0, "fade 5/0000;", 2, 7);
        refuses(x, 0, "fade 0/0;", 2, 7);
        refuses(x, 0, "fade 5/1/0*2;", 2, 9);
        refuses(x, 0, "fade 1 when 1/0<2;", 2, 14);
        refuses(x, 0, "fade 1 when 1<2/0;", 2, 16);
        takes(x, 0, "fade 5/1;fade 5/9999;fade 5/0001;fade 0*0;fade 0/1;", 5);
        about("2: the first by its place");
        refuses(x, 0, "fade 5/0;x", 2, 7);
        refuses(x, 0, "fade 5/0", 2, 7);
        refuses(x, 0, "fade x/0", 1, 5);
        refuses(x, 0, "fade 1 when 5/0<((((((((((", 2, 14);
        refuses(x, 0, "fade 1 when ((((((((( 5/0", 3, 20);
    }

    private static void conditions() {
        about("2: the grammar of B");
        FogArrows x = new FogArrows();
        String[] bad = {";", "1;", "1<;", "<1;", "1<2<3;", "1<2 3<4;", "1<2 or;", "1<2 and;", "or 1<2;", "1<2 or and 3<4;",
            "not;", "not 1;", "();", "(1<2;", "1<2);", "(1<2));", "((1<2);", "(1)<2;", "1<(2);", "1<2 not 3<4;", "1<2(3<4);",
            "1<=2;", "1==2;", "(1<2)=1;", "not(1<2)(3<4);", "1<2 when 3<4;", "1 or 2<3;"};
        int[] at = {0, 1, 2, 0, 3, 4, 6, 7, 0, 7, 3, 5, 1, 4, 3, 5, 6, 2, 2, 4, 3, 2, 2, 5, 8, 4, 2};
        for (int i = 0; i < bad.length; i++) {
            refuses(i % 9 == 0 ? x = new FogArrows() : x, 0, WHEN + bad[i], 1, WHEN.length() + at[i]);
        }
        refuses(x, 0, WHEN + "1<2", 1, WHEN.length() + 3);
        refuses(x, 0, WHEN, 1, WHEN.length());
        refuses(x, 0, WHEN + "(", 1, WHEN.length() + 1);
        refuses(x, 0, WHEN + "not ", 1, WHEN.length() + 4);
        nests();
    }

    private static void nests() {
        about("2: 3 (at it) the 9th ( or not that is open");
        FogArrows x = new FogArrows();
        int w = WHEN.length();
        takes(x, 0, WHEN + times("(", 8) + "1<2" + times(")", 8) + ";", 1);
        refuses(x, 0, WHEN + times("(", 9) + "1<2" + times(")", 9) + ";", 3, w + 8);
        refuses(x, 0, WHEN + times("(", 10), 3, w + 8);
        takes(x, 0, WHEN + times("not ", 8) + "1<2;", 1);
        refuses(x, 0, WHEN + times("not ", 9) + "1<2;", 3, w + 32);
        takes(x, 0, WHEN + times("not(", 4) + "1<2" + times(")", 4) + ";", 1);
        refuses(x, 0, WHEN + times("not(", 4) + "not 1<2" + times(")", 4) + ";", 3, w + 16);
        refuses(x, 0, WHEN + times("not(", 4) + "(1<2)" + times(")", 4) + ";", 3, w + 16);
        refuses(x, 0, WHEN + times("(", 8) + "not 1<2", 3, w + 8);
        refuses(x, 0, WHEN + times("not ", 8) + "(1<2)", 3, w + 32);
        about("2: what is closed is not open");
        takes(x, 0, WHEN + times("(1<2)and", 12) + "(1<2);", 1);
        takes(x, 0, WHEN + times("not 1<2 or ", 12) + "not 1<2;", 1);
        takes(x, 0, WHEN + times("(", 7) + "(1<2)or(1<2)and not 1<2 and not 1<2" + times(")", 7) + ";", 1);
        takes(x, 0, WHEN + times("not ", 7) + "(1<2) and " + times("not ", 7) + "(1<2) or " + times("(", 8) + "1<2"
            + times(")", 8) + ";", 1);
        refuses(x, 0, WHEN + times("(", 7) + "(1<2)or(1<2)and(not 1<2", 3, w + 7 + 16);
        FogArrows y = new FogArrows();
        refuses(y, 0, WHEN + times("(", 7) + "1<2 and not(1<2", 3, w + 7 + 11);
        refuses(y, 0, WHEN + "(1<2 and not(1<2 or" + times("(", 6) + "1<2", 3, w + 24);
        refuses(y, 0, WHEN + "1<2 or 1<2 and 1<2 or " + times("(", 9) + "1<2", 3, w + 30);
        refuses(y, 0, WHEN + "(1<2 and 1<2)or not 1<2 or " + times("not ", 9) + "1<2", 3, w + 59);
        takes(y, 0, WHEN + "(1<2 and not(1<2 or" + times("(", 5) + "1<2" + times(")", 7) + ";", 1);
        about("2: each line begins with none open");
        takes(y, 0, WHEN + times("(", 8) + "1<2" + times(")", 8) + ";" + WHEN + times("(", 8) + "1<2" + times(")", 8) + ";", 2);
        refuses(y, 0, WHEN + times("(", 5), 1, w + 5);
        takes(y, 0, WHEN + times("(", 8) + "1<2" + times(")", 8) + ";", 1);
        about("Promise 11: of a refused text nothing is left");
        for (String bad : new String[] {"not ", "1=1 or ", "1=2 and ", "not(", "(not 1=1 and "}) {
            FogArrows z = with(7, 0, 0);
            for (int i = 0; i < 9; i++) {
                refuses(z, 0, WHEN + bad, 1, w + bad.length());
            }
            when(z, "1=1", true);
            when(z, "1=2", false);
            when(z, "not(1=2 and not 1=1)", true);
        }
        about("2: at one place the least: what can't stand there ahead of the 9th");
        refuses(y, 0, WHEN + times("(", 8) + "1 (", 1, w + 10);
        refuses(y, 0, WHEN + times("(", 8) + "1 not", 1, w + 10);
        refuses(y, 0, WHEN + times("(", 8) + "1<(", 1, w + 10);
    }

    private static void currents() {
        about("2: hour N 0 .. 23 of a day, 0 .. 5 an hour");
        FogArrows x = new FogArrows();
        takes(x, 1, "hour 0 drift 0;hour 23 ebb 5;hour 23 drift 5;hour 0 ebb 0;", 4);
        refuses(x, 1, "hour 24 drift 1;", 2, 5);
        refuses(x, 1, "hour 9999 drift 1;", 2, 5);
        refuses(x, 1, "hour 0 drift 6;", 2, 13);
        refuses(x, 1, "hour 0 ebb 6;", 2, 11);
        refuses(x, 1, "hour 0 ebb 9999;", 2, 11);
        refuses(x, 1, "hour 24 ebb 6;", 2, 5);
        String[] bad = {"hour", "hour drift 1;", "hour 1;", "hour 1 2;", "hour 1 drift;", "hour 1 drift 1", "hour 1 ebb 1 2;",
            "hour 1 ebb drift 1;", "drift 1;", "hour 1 + 1 ebb 1;", "hour 1 ebb - 1;", "hour 1 hour 2 ebb 1;"};
        int[] at = {4, 5, 6, 7, 12, 14, 13, 11, 0, 7, 11, 7};
        for (int i = 0; i < bad.length; i++) {
            refuses(x, 1, bad[i], 1, at[i]);
        }
        about("2: without lines 0; of one line all day");
        FogArrows y = new FogArrows();
        each("without lines", 0, y.river(0, 1), y.river(23, 1));
        tell(y, 1, "hour 0 drift 2;");
        each("from 0 on", 2, y.river(0, 1), y.river(1, 1), y.river(23, 1));
        tell(y, 1, "hour 23 ebb 3;");
        each("from 23 on, and ahead of it", -3, y.river(0, 1), y.river(22, 1), y.river(23, 1));
        about("2: till another line's; of several for one hour the last; ahead of the least told that of the greatest");
        tell(y, 1, "hour 20 ebb 1;hour 4 drift 1;hour 20 ebb 2;hour 4 drift 3;hour 12 drift 0;hour 4 drift 2;hour 20 ebb 4;");
        each("ahead of 4", -4, y.river(0, 1), y.river(3, 1));
        each("from 4 on", 2, y.river(4, 1), y.river(5, 1), y.river(11, 1));
        each("from 12 on", 0, y.river(12, 1), y.river(19, 1));
        each("from 20 on", -4, y.river(20, 1), y.river(23, 1));
        tell(y, 1, "");
        each("without lines", 0, y.river(0, 1), y.river(23, 1));
    }

    private static void plans() {
        about("2: A PLAN: HOUR 0 .. 999, BOAT, drums N 0 .. 9, REACH 0 .. 15");
        FogArrows x = with(1, 0, 0, 1, 0, 0);
        takes(x, 2, "at 0 turn 1;at 999 home 1;at 0 drums 9;at 1 drums 0;at 1 move 1 to 15;at 1 move 0 to 0;", 6);
        refuses(x, 2, "at 1000 turn 0;", 2, 3);
        refuses(x, 2, "at 9999 turn 0;", 2, 3);
        refuses(x, 2, "at 1 drums 10;", 2, 11);
        refuses(x, 2, "at 1 move 0 to 16;", 2, 15);
        about("2: 2 a BOAT that there is not");
        refuses(x, 2, "at 1 turn 2;", 2, 10);
        refuses(x, 2, "at 1 home 2;", 2, 10);
        refuses(x, 2, "at 1 move 2 to 1;", 2, 10);
        refuses(x, 2, "at 1 move 9999", 2, 10);
        FogArrows y = new FogArrows();
        refuses(y, 2, "at 1 turn 0;", 2, 10);
        takes(y, 2, "at 1 drums 0;", 1);
        y.boat(1, 0, 0);
        takes(y, 2, "at 1 turn 0;", 1);
        refuses(y, 2, "at 1 turn 1;", 2, 10);
        FogArrows all = with(1, 0, 0, 1, 0, 0, 1, 0, 0, 1, 0, 0, 1, 0, 0, 1, 0, 0, 1, 0, 0, 1, 0, 0, 1, 0, 0, 1, 0, 0);
        takes(all, 2, "at 1 turn 9;", 1);
        refuses(all, 2, "at 1 turn 10;", 2, 10);
        about("2: a LOST BOAT is one that there is");
        FogArrows lost = lostOne();
        takes(lost, 2, "at 1 turn 0;", 1);
        about("2: the grammar of A PLAN");
        String[] bad = {"at", "at turn 0;", "at 1;", "at 1 turn;", "at 1 turn 0", "at 1 turn 0 to 1;", "at 1 move 0;",
            "at 1 move 0 to;", "at 1 move 0 1;", "at 1 home 0 1;", "at 1 drums;", "at 1 drums 1 1;", "at 1 at 1;", "turn 0;",
            "at 1 turn 0, at", "at 1 to 0;", "at 1 drums fog;"};
        int[] at = {2, 3, 4, 9, 11, 12, 11, 14, 12, 12, 10, 13, 5, 0, 11, 5, 11};
        for (int i = 0; i < bad.length; i++) {
            refuses(x, 2, bad[i], 1, at[i]);
        }
        is("as it was", x.look(12), 6);
    }

    private static void villages() {
        about("2: VILLAGE 0 .. 11, straw 1 .. 99, talks with other ones, 0 .. 11");
        FogArrows x = new FogArrows();
        takes(x, 3, "village 0 straw 1 talks 11;village 11 straw 99 talks 0 and 0 and 5;", 2);
        refuses(x, 3, "village 12 straw 1;", 2, 8);
        refuses(x, 3, "village 1 straw 0;", 2, 16);
        refuses(x, 3, "village 1 straw 100;", 2, 16);
        refuses(x, 3, "village 1 straw 1 talks 12;", 2, 24);
        refuses(x, 3, "village 1 straw 1 talks 0 and 12;", 2, 30);
        about("2: 2 a VILLAGE told already, the same one as its own");
        refuses(x, 3, "village 1 straw 1;village 0 straw 1;village 1 straw 1;", 2, 44);
        refuses(x, 3, "village 1 straw 1;village 1 talks", 2, 26);
        refuses(x, 3, "village 0 straw 1 talks 0;", 2, 24);
        refuses(x, 3, "village 11 straw 1 talks 1 and 11;", 2, 31);
        refuses(x, 3, "village 1 straw 1;village 2 straw 1 talks 2", 2, 42);
        is("as it was", x.look(13), 2);
        is("as it was", x.village(0, 1), 2048);
        about("2: the grammar of VILLAGES");
        String[] bad = {"village", "village straw 1;", "village 1;", "village 1 straw;", "village 1 straw 1",
            "village 1 straw 1 talks;", "village 1 straw 1 talks 2", "village 1 straw 1 talks 2 and;",
            "village 1 straw 1 and 2;", "village 1 straw 1 talks 2 3;", "village 1 straw 1 talks 2 talks 3;",
            "village 1 straw 1 talks and 2;", "straw 1;", "village 1 talks 2;", "village 1 straw 1 straw 1;"};
        int[] at = {7, 8, 9, 15, 17, 23, 25, 29, 18, 26, 26, 24, 0, 10, 18};
        for (int i = 0; i < bad.length; i++) {
            refuses(x, 3, bad[i], 1, at[i]);
        }
        about("2: two talk, if one of both says so, and both are told");
        FogArrows y = new FogArrows();
        tell(y, 3, "village 0 straw 1 talks 1 and 11 and 2;village 2 straw 1 talks 0;village 1 straw 1;village 10 straw 1 "
            + "talks 11;village 3 straw 1;");
        is("one says so, both say so, one is not told", y.village(0, 1), 6);
        is("the other one says so", y.village(1, 1), 1);
        is("both say so", y.village(2, 1), 1);
        is("with one not told", y.village(10, 1), 0);
        is("with none", y.village(3, 1), 0);
        about("Promise 15: NONE if it was not told, or another what");
        none("not told", y.village(11, 0), y.village(11, 1), y.village(9, 0), new FogArrows().village(0, 0));
        none("no such one", y.village(-1, 0), y.village(12, 1), y.village(MAX, 0), y.village(MIN, 1));
        none("another what", y.village(0, 2), y.village(0, -1), y.village(0, MAX), y.village(0, MIN));
        about("Promise 11: those told before are told no more");
        takes(y, 3, "village 11 straw 7 talks 0;", 1);
        is("straw", y.village(11, 0), 7);
        is("talks", y.village(11, 1), 0);
        none("told before", y.village(0, 0), y.village(10, 1));
    }

    private static void list(FogArrows x, String e, int due) {
        tell(x, 0, "list " + e + ";");
        is("list " + e, x.of(0, 9), due);
    }

    private static void when(FogArrows x, String b, boolean due) {
        tell(x, 0, "list 2 when " + b + ";list 1;");
        is("list 2 when " + b, x.of(0, 9), due ? 2 : 1);
    }

    private static void held() {
        about("2: shot held to 0 .. 99, stick to 0 .. 100, list to 1 .. 999");
        FogArrows x = with(1, 0, 0);
        String[] said = {"0-1", "0", "1", "98", "99", "100", "101", "998", "999", "1000", "9999", "9999*9999*22"};
        int[] shot = {0, 0, 1, 98, 99, 99, 99, 99, 99, 99, 99, 0};
        int[] stick = {0, 0, 1, 98, 99, 100, 100, 100, 100, 100, 100, 0};
        int[] list = {1, 1, 1, 98, 99, 100, 101, 998, 999, 999, 999, 1};
        for (int i = 0; i < said.length; i++) {
            takes(x, 0, "shot " + said[i] + ";stick " + said[i] + ";list " + said[i] + ";", 3);
            is("shot " + said[i], x.of(0, 7), shot[i]);
            is("stick " + said[i], x.of(0, 8), stick[i]);
            is("list " + said[i], x.of(0, 9), list[i]);
        }
        about("2: none: archers less 2 times fog; 40 and straw; 10 times straw");
        FogArrows y = with(1, 0, 0, 40, 0, 15);
        int[][] shots = {{10, 5, 0}, {10, 4, 2}, {9, 5, 0}, {0, 9, 0}, {0, 0, 0}, {99, 0, 99}, {99, 9, 81}, {19, 9, 1}};
        for (int[] s : shots) {
            y.set(4, 15, s[0]);
            y.set(0, 0, s[1]);
            is("shot by " + s[0] + " ARCHERS, FOG " + s[1], y.of(1, 7), s[2]);
        }
        is("stick of 1", y.of(0, 8), 41);
        is("stick of 40", y.of(1, 8), 80);
        is("list of 1", y.of(0, 9), 10);
        is("list of 40", y.of(1, 9), 400);
        about("2: hour: HOUR modulo 24");
        FogArrows z = with(1, 2, 0);
        tell(z, 0, "stick hour;");
        is("at 0", z.of(0, 8), 0);
        z.hours(23);
        is("at 23", z.of(0, 8), 23);
        z.hours(1);
        is("at 24", z.of(0, 8), 0);
        z.hours(25);
        is("at 49", z.of(0, 8), 1);
    }

    private static void values() {
        about("2: ints, which wrap");
        FogArrows x = with(7, 1, 4);
        when(x, "9999*9999*22<0", true);
        when(x, "9999*9999*21<0", false);
        when(x, "9999*9999*21+9999*9999<0", true);
        when(x, "0-9999*9999*21-9999*9999>0", true);
        when(x, "9999*9999*9999*9999/9999=1089*100+54", true);
        when(x, "9999*9999*9999/9999=0-1027*100-45", true);
        about("2: / goes towards 0");
        when(x, "9999*9999*22/9999=0-2095*100-61", true);
        when(x, "9999*9999*22/9999<0-2095*100-61", false);
        list(x, "7/2", 3);
        list(x, "9999/10", 999);
        list(x, "1/2+1", 1);
        about("2: a T is read from the left, ahead of + and -");
        list(x, "100/7/3*2", 8);
        list(x, "9*7/2", 31);
        list(x, "9/2*7", 28);
        list(x, "50-20-9+1", 22);
        list(x, "50-4*5+6/2", 33);
        about("2: what is seen");
        x.set(5, 0, 2);
        x.set(6, 0, 9);
        x.set(2, 0, 31);
        x.set(4, 4, 77);
        list(x, "fog*100+drums*10+kind", 531);
        list(x, "alarm*10+reach", 314);
        list(x, "archers*10+straw", 777);
        list(x, "stuck*10+lean", 117);
        x.set(5, 0, 9);
        x.set(6, 0, 2);
        list(x, "lean+1", 8);
        x.set(6, 0, 9);
        list(x, "lean+1", 1);
        about("2: < = >, as great");
        FogArrows y = with(7, 1, 4);
        String[] so = {"1<2", "2=2", "3>2", "0-1<0", "not 2<2", "not 2>2", "not 1=2", "not 2<1", "not 1>2"};
        for (String b : so) {
            when(y, b, true);
            when(y, "not " + b, false);
        }
        about("2: A ahead of or, C ahead of and, not ahead of both");
        String t = "1=1";
        String f = "1=2";
        FogArrows z = with(7, 1, 4);
        when(z, t + " or " + f + " and " + f, true);
        when(z, "(" + t + " or " + f + ") and " + f, false);
        when(z, f + " and " + f + " or " + t, true);
        when(z, f + " and (" + f + " or " + t + ")", false);
        when(z, "not " + f + " and " + f, false);
        when(z, "not(" + f + " and " + f + ")", true);
        when(z, "not " + t + " or " + t, true);
        when(z, "not(" + t + " or " + t + ")", false);
        when(z, "not not " + t, true);
        when(z, t + " and " + t + " and " + f, false);
        when(z, f + " or " + f + " or " + t, true);
    }

    private static void laws() {
        about("2: the first line with that word whose B is so, or that has none");
        FogArrows x = with(7, 1, 4);
        tell(x, 0, "stick 3;list 4 when fog=4;list 5 when fog=5;list 6 when fog=5;list 7;list 8;");
        is("the third", x.of(0, 9), 5);
        x.set(0, 0, 4);
        is("the second", x.of(0, 9), 4);
        x.set(0, 0, 6);
        is("the fifth", x.of(0, 9), 7);
        is("that of another word", x.of(0, 8), 3);
        is("none", x.of(0, 7), 0);
        tell(x, 0, "list 4 when fog=4;stick 9 when fog>6;");
        is("none is so", x.of(0, 9), 70);
        is("none is so", x.of(0, 8), 47);
        about("2: fade: archers, straw, kind, reach, stuck, lean 0; 5 without a line");
        String[] zeros = {"archers", "straw", "kind", "reach", "stuck", "lean"};
        for (String s : zeros) {
            FogArrows y = with(7, 1, 4);
            y.set(2, 0, 90);
            y.set(1, 0, 0);
            y.set(5, 0, 3);
            y.set(4, 0, 50);
            tell(y, 0, "fade 2+9*" + s + ";");
            y.hours(1);
            is("ALARM by " + s, y.look(4), 88);
        }
        FogArrows y = with(7, 2, 4);
        y.set(2, 0, 90);
        tell(y, 0, "fade fog+10*drums+20*hour when alarm=94;fade 1;");
        y.set(1, 0, 2);
        // ALARM is 92: 1; then 93 + 2 - 1 ..
        y.hours(1);
        is("ALARM", y.look(4), 91);
        y.set(0, 0, 5);
        y.set(2, 0, 92);
        y.state(0);
        // FOG stays by the DRAW; 5 + 20 + 20 less
        y.hours(1);
        is("fog, drums, alarm, hour are seen", y.look(4), 94 - 45);
        tell(y, 0, "");
        y.set(1, 0, 0);
        y.hours(1);
        is("5 less", y.look(4), 44);
    }

    public static void main(String[] args) {
        tape();
        told();
        lines();
        tokens();
        sums();
        conditions();
        currents();
        plans();
        villages();
        held();
        values();
        laws();
        end("edges of the texts");
    }
}
