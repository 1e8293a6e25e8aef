import java.lang.management.ManagementFactory;
import java.lang.reflect.Constructor;
import java.lang.reflect.Field;
import java.lang.reflect.Method;
import java.lang.reflect.Modifier;
import java.nio.charset.StandardCharsets;
import java.nio.file.Files;
import java.nio.file.Path;
import java.util.Arrays;
import java.util.Set;
import java.util.TreeSet;
import java.util.regex.Matcher;
import java.util.regex.Pattern;

/** What ../shared/LANGUAGE.md asks of the class, as far as it can be looked for: its face, its words, its room. */
public final class FogArrowsRules {
    private static final String FACE = "boolean bank(int,int);int boat(int,int,int);int book(int,int);int buys(int,int);"
        + "int count(int,int);int crowd(int);int cuts(int,int);boolean end(int);int fault(int);"
        + "int feed(int,int,int,int,int);int fits(int);int fogs(int,int);int game(int);int goes(int,int);int hears(int);"
        + "int heavy(int);int home(int);int hours(int);boolean image(boolean);int keeps(int);int lies(int);int look(int);"
        + "int mark(int);boolean move(int,int);int of(int,int);int rests(int);int river(int,int);boolean set(int,int,int);"
        + "int share(int,int);int state(int);int stays(int);int text(int);boolean turn(int);int turnings(int,int,int);"
        + "boolean undo();int village(int,int);";
    private static int wrong = 0;

    private static void must(boolean holds, String what) {
        if (!holds) {
            wrong++;
            System.out.println("rules: " + what);
        }
    }

    private static void face() {
        Set<String> methods = new TreeSet<>();
        Set<String> names = new TreeSet<>();
        for (Method m : FogArrows.class.getDeclaredMethods()) {
            if (!Modifier.isPrivate(m.getModifiers())) {
                String args = Arrays.toString(m.getParameterTypes()).replaceAll("[\\[\\] ]", "");
                methods.add(m.getReturnType() + " " + m.getName() + "(" + args + ");");
                names.add(m.getName());
                must(Modifier.isPublic(m.getModifiers()) && !Modifier.isStatic(m.getModifiers()), "face of " + m);
            }
        }
        must(methods.equals(new TreeSet<>(Arrays.asList(FACE.split("(?<=;)")))), "1: the face is " + methods);
        must(Modifier.isFinal(FogArrows.class.getModifiers()), "1: final");
        Constructor<?>[] made = FogArrows.class.getDeclaredConstructors();
        must(made.length == 1 && Modifier.isPublic(made[0].getModifiers()), "1: the constructor");
        for (Field f : FogArrows.class.getDeclaredFields()) {
            must(f.getName().equals("NONE") || Modifier.isPrivate(f.getModifiers()), "1: field " + f);
            must(!Modifier.isStatic(f.getModifiers()) || Modifier.isFinal(f.getModifiers()), "5: field " + f);
        }
        Class<?>[] inner = FogArrows.class.getDeclaredClasses();
        must(inner.length <= 11, "11: some twelve classes");
        for (Class<?> c : inner) {
            must(Modifier.isStatic(c.getModifiers()) && Modifier.isPrivate(c.getModifiers()), "2: " + c);
            must(c.getDeclaredFields().length <= 20, "11: fields of " + c);
            for (Method m : c.getDeclaredMethods()) {
                must(!names.contains(m.getName()), "1: " + m + " bears the name of a public one");
                must(m.getParameterCount() <= 7, "11: parameters of " + m);
            }
        }
    }

    private static void words() throws Exception {
        String all = Files.readString(Path.of("src/main/java/FogArrows.java"), StandardCharsets.ISO_8859_1);
        String code = all.replaceAll("(?s)/\\*.*?\\*/", "").replaceAll("//[^\n]*", "");
        String plain = code.replaceAll("\"[^\"\n]*\"", "\"\"").replaceAll("'[^'\n]'", "''");
        Matcher bad = Pattern.compile("\\b(throws?|try|catch|finally|synchronized|assert|import|package|instanceof|record|"
            + "enum|interface|extends|implements|volatile|native|transient|var|Object|Exception|Error)\\b|->|::|@|\\?\\?"
            + "|static \\{|\"\"\"|\\+ \"|\" \\+").matcher(plain);
        while (bad.find()) {
            must(false, "the word " + bad.group());
        }
        for (int i = 0; i < all.length(); i++) {
            must(all.charAt(i) == '\n' || all.charAt(i) >= 32 && all.charAt(i) < 127, "the sign at " + i);
        }
        String[] lines = code.split("\n");
        int begun = 0;
        for (int i = 0; i < lines.length; i++) {
            if (lines[i].matches(" {4,8}(\\S.*)?\\w+\\(.*\\) \\{") && !lines[i].contains(" new ")) {
                begun = i;
            }
            if (lines[i].matches(" {4,8}\\}")) {
                must(i - begun < 60, "11: the method of line " + begun);
            }
        }
    }

    /** Nothing but the constructor makes objects: a run of calls takes no more room than its objects do. */
    private static void room() {
        com.sun.management.ThreadMXBean bean = (com.sun.management.ThreadMXBean) ManagementFactory.getThreadMXBean();
        long me = Thread.currentThread().getId();
        callAll(new FogArrows());
        callAll(new FogArrows());
        bean.getThreadAllocatedBytes(me);
        long before = bean.getThreadAllocatedBytes(me);
        FogArrows x = new FogArrows();
        long made = bean.getThreadAllocatedBytes(me);
        callAll(x);
        long called = bean.getThreadAllocatedBytes(me);
        must(made - before < 80000, "a new object takes " + (made - before) + " bytes");
        must(called - made < 1000, "calls take " + (called - made) + " bytes");
    }

    private static void callAll(FogArrows x) {
        for (int b = 0; b < 10; b++) {
            x.boat(40 - b, b % 3, b);
        }
        x.feed(0x73686f74, 0x20617263, 0x68657273, 0x2b31206f, 0x72202020);
        x.text(0);
        x.feed(0x73686f74, 0x20617263, 0x68657273, 0x2b312020, 0x3b202020);
        x.text(0);
        x.hours(60);
        x.image(true);
        x.undo();
        x.image(false);
        for (int i = 0; i < 20; i++) {
            x.turn(i);
            x.home(i);
            x.move(i, i);
            x.set(i, 0, i);
            x.of(i % 10, i);
            x.goes(i, 0);
            x.stays(i);
            x.keeps(999 * i);
            x.turnings(i, i / 2, 1);
            x.lies(i);
            x.fogs(i, 2 * i);
            x.buys(i, 1);
            x.hears(i);
            x.cuts(i, i + 1);
            x.count(i, 1);
            x.fits(i);
            x.bank(i, i);
            x.rests(i);
            x.mark(i);
            x.share(999, i);
            x.game(i);
            x.crowd(i);
            x.heavy(i);
            x.look(i);
        }
    }

    private static final int[] FAR_AND_NEAR = {Integer.MIN_VALUE, Integer.MIN_VALUE + 1, -65536, -2, -1, 0, 1, 2, 3, 9, 10, 16,
        24, 99, 1000, 10000, 65536, Integer.MAX_VALUE - 1, Integer.MAX_VALUE};

    /** A new river, one with ten BOATS and all TEXTS, one at the last HOUR whose BOATS are LOST, one with a full TAPE. */
    private static FogArrows river(int which) {
        FogArrows x = new FogArrows();
        if (which == 0) {
            return x;
        }
        for (int b = 0; b < 10; b++) {
            x.boat(40 - b, b % 3, b);
        }
        String[] texts = {"shot 9999*9999*22/9999 when not(fog<9);shot 0-1;fade lean;", "hour 1 ebb 5;hour 23 drift 5;",
            "at 0 move 9 to 15;at 1 drums 9;at 9 turn 0;at 9 home 3;", "village 0 straw 1 talks 11;village 11 straw 99;"};
        for (int k = 0; k < 4; k++) {
            Checks.tell(x, k, texts[k]);
        }
        x.image(true);
        for (int i = 0; i < 10 && which == 2; i++) {
            x.set(5, i, 999);
        }
        for (int i = 0; i < 167 && which == 2; i++) {
            x.hours(i == 166 ? 39 : 60);
        }
        for (int i = 0; i < 20 && which == 3; i++) {
            x.feed(0x7f80ff00, -1, 0x28282828, 0x39393939, i);
        }
        return x;
    }

    private static void anyArguments() throws Exception {
        for (Method m : FogArrows.class.getDeclaredMethods()) {
            if (!Modifier.isPublic(m.getModifiers())) {
                continue;
            }
            int free = Math.min(3, m.getParameterCount());
            int rows = (int) Math.pow(FAR_AND_NEAR.length, free);
            for (int which = 0; which < 4; which++) {
                FogArrows x = river(which);
                for (int i = 0; i < rows; i++) {
                    // an object is used for at most 512 calls
                    if (i % 250 == 249) {
                        x = river(which);
                    }
                    answers(m, x, i);
                }
            }
        }
    }

    private static void answers(Method m, FogArrows x, int row) {
        Object[] args = new Object[m.getParameterCount()];
        int rest = row;
        for (int i = 0; i < args.length; i++) {
            args[i] = m.getParameterTypes()[i] == boolean.class ? (Object) (rest % 2 == 0)
                : (Object) FAR_AND_NEAR[rest % FAR_AND_NEAR.length];
            rest /= FAR_AND_NEAR.length;
        }
        try {
            m.invoke(x, args);
        } catch (ReflectiveOperationException e) {
            must(false, "7: " + m.getName() + Arrays.toString(args) + " throws " + e.getCause());
        }
    }

    public static void main(String[] args) throws Exception {
        face();
        words();
        room();
        anyArguments();
        System.out.println(wrong == 0 ? "rules: kept" : "rules: " + wrong + " broken");
        if (wrong != 0) {
            System.exit(1);
        }
    }
}
