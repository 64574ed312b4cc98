import java.lang.management.ManagementFactory;
import java.lang.reflect.Constructor;
import java.lang.reflect.Field;
import java.lang.reflect.InvocationTargetException;
import java.lang.reflect.Method;
import java.lang.reflect.Modifier;
import java.nio.charset.StandardCharsets;
import java.nio.file.Files;
import java.nio.file.Path;
import java.util.ArrayList;
import java.util.Arrays;
import java.util.List;
import java.util.Random;
import java.util.Set;
import java.util.TreeSet;

/** The form of the class: its face, words that LANGUAGE.md rules out, and that no call throws or makes an object. */
public final class FormTest {
    private static final String FACE = "type(int,int)int wipe(int)int fault()int path(int,int)int start(int,int)int"
        + " set(int,int)int thistle(int,int)int read(int,int)int undo(int)int judged(int)int state(int,int,int)int"
        + " rope(int,int,int)int needs(int)int soon(int,int,int)int loose(int)int pulled(int,int,int,int)int"
        + " began(int,int)int game(int,int,int)int alike()int sheet(int,int,int)int lose(int)int"
        + " lay(int,int,int,int)int get(int,int,int)int copy(int,int,int,int,int)int write(int,int)int count(int)int"
        + " digest()long";
    private static int wrong = 0;

    public static void main(String[] args) throws Exception {
        face();
        names();
        words();
        sizes();
        neverThrows();
        room();
        System.out.println(wrong == 0 ? "the form is as due" : wrong + " faults of form");
        if (wrong != 0) {
            System.exit(1);
        }
    }

    private static void check(boolean holds, String fault) {
        if (!holds) {
            wrong++;
            System.out.println(fault);
        }
    }

    private static void face() throws Exception {
        Set<String> told = new TreeSet<>(Set.of(FACE.split(" ")));
        Set<String> found = new TreeSet<>();
        for (Method m : TwoGoats.class.getDeclaredMethods()) {
            if (!Modifier.isPrivate(m.getModifiers())) {
                check(Modifier.isPublic(m.getModifiers()), m.getName() + " is neither public nor private");
                found.add(signature(m));
            }
        }
        check(found.equals(told), "the methods are " + found + ", due are " + told);
        check(Modifier.isFinal(TwoGoats.class.getModifiers()), "the class is not final");
        Constructor<?>[] constructors = TwoGoats.class.getDeclaredConstructors();
        check(constructors.length == 1 && constructors[0].getParameterCount() == 0, "there are other constructors");
        int constants = 0;
        for (Field f : TwoGoats.class.getDeclaredFields()) {
            constants += Modifier.isPublic(f.getModifiers()) ? 1 : 0;
            boolean isOpen = Modifier.isPrivate(f.getModifiers()) || Modifier.isPublic(f.getModifiers());
            check(isOpen, f.getName() + " is neither public nor private");
            check(!Modifier.isStatic(f.getModifiers()) || Modifier.isFinal(f.getModifiers()), f.getName() + " changes");
        }
        check(constants == 4, constants + " public constants, due are 4");
        check(TwoGoats.NONE == -1 && TwoGoats.BAD == -2 && TwoGoats.NOT == -3 && TwoGoats.FULL == -4, "constants");
    }

    private static String signature(Method m) {
        StringBuilder types = new StringBuilder();
        for (Class<?> type : m.getParameterTypes()) {
            types.append(types.length() == 0 ? "" : ",").append(type);
        }
        return m.getName() + "(" + types + ")" + m.getReturnType();
    }

    private static void names() {
        Set<String> ofTheFace = new TreeSet<>();
        for (String one : FACE.split(" ")) {
            ofTheFace.add(one.substring(0, one.indexOf('(')));
        }
        for (Method m : TwoGoats.class.getDeclaredMethods()) {
            boolean isPrivate = Modifier.isPrivate(m.getModifiers());
            check(!isPrivate || !ofTheFace.contains(m.getName()), "a private " + m.getName());
        }
        for (Class<?> inside : TwoGoats.class.getDeclaredClasses()) {
            check(Modifier.isStatic(inside.getModifiers()), inside + " is not static");
            for (Method m : inside.getDeclaredMethods()) {
                check(!ofTheFace.contains(m.getName()), "a " + m.getName() + " in " + inside);
                check(m.getParameterCount() <= 7, m.getName() + " takes too many");
            }
        }
    }

    private static void words() throws Exception {
        byte[] bytes = Files.readAllBytes(Path.of("src/main/java/TwoGoats.java"));
        String source = new String(bytes, StandardCharsets.ISO_8859_1);
        String code = source.replaceAll("(?s)/\\*.*?\\*/", "").replaceAll("//[^\n]*", "");
        for (String word : "throw try catch synchronized assert package protected import".split(" ")) {
            String rest = code.replace("import java.util.Arrays;", "");
            check(!rest.matches("(?s).*\\b" + word + "\\b.*"), "the word " + word);
        }
        check(!code.contains("->") && !code.contains("::"), "a lambda or a reference to a method");
        for (byte b : bytes) {
            check(b == '\n' || b >= ' ', "a byte " + b);
        }
    }

    // LANGUAGE.md rule 11; a class inside stands four spaces further in than the public one, and so do its methods.
    private static void sizes() throws Exception {
        Class<?>[] inside = TwoGoats.class.getDeclaredClasses();
        check(1 + inside.length <= 12, inside.length + " classes inside");
        List<Class<?>> all = new ArrayList<>(Arrays.asList(inside));
        all.add(TwoGoats.class);
        for (Class<?> one : all) {
            int fields = 0;
            for (Field f : one.getDeclaredFields()) {
                fields += Modifier.isStatic(f.getModifiers()) ? 0 : 1;
            }
            check(fields <= 20, one + " has " + fields + " fields");
        }
        String begin = "";
        int lines = 0;
        for (String line : Files.readAllLines(Path.of("src/main/java/TwoGoats.java"))) {
            lines++;
            if (line.matches(" {4}( {4})?(?!for|if|while|switch)[a-zA-Z].*\\) \\{")) {
                begin = line;
                lines = 1;
            }
            boolean ends = line.equals(begin.replaceAll("\\S.*", "") + "}");
            check(!ends || begin.isEmpty() || lines <= 60, lines + " lines of " + begin);
            begin = ends ? "" : begin;
        }
    }

    private static void neverThrows() throws Exception {
        int[] numbers = {Integer.MIN_VALUE, -61, -1, 0, 1, 2, 3, 7, 8, 40, 41, 60, 97, Integer.MAX_VALUE};
        Random random = new Random(7);
        Method[] methods = TwoGoats.class.getMethods();
        for (int run = 0; run < 300; run++) {
            TwoGoats x = new TwoGoats();
            for (char c : "011;121;201;011".toCharArray()) {
                x.type(0, c);
            }
            for (int n = 0; n < 500; n++) {
                Method m = methods[random.nextInt(methods.length)];
                if (m.getDeclaringClass() != TwoGoats.class) {
                    continue;
                }
                Object[] args = new Object[m.getParameterCount()];
                for (int i = 0; i < args.length; i++) {
                    args[i] = numbers[random.nextInt(numbers.length)];
                }
                try {
                    m.invoke(x, args);
                } catch (InvocationTargetException e) {
                    check(false, m.getName() + Arrays.toString(args) + " throws " + e.getCause());
                }
            }
        }
    }

    // All calls of a run live in one room: whatever a call needs is made with the object.
    private static void room() {
        TwoGoats x = new TwoGoats();
        for (char c : "011;011;011;121;121;201;021;011".toCharArray()) {
            x.type(0, c);
        }
        for (int place = 0; place < 8; place++) {
            x.thistle(place, 10 + place);
        }
        x.set(2, 18);
        long before = allocated();
        for (int n = 0; n < 100; n++) {
            callAll(x, n);
        }
        long made = allocated() - before;
        check(made < 200_000, "100 rounds of calls made objects of " + made + " bytes");
    }

    private static long allocated() {
        return ((com.sun.management.ThreadMXBean) ManagementFactory.getThreadMXBean())
            .getThreadAllocatedBytes(Thread.currentThread().getId());
    }

    private static void callAll(TwoGoats x, int n) {
        x.wipe(1);
        x.type(1, 'a' + n % 8);
        x.sheet(0, n % 3, 60);
        x.lay(0, n % 3, n % 60, n);
        x.get(0, n % 3, n % 60);
        x.copy(0, 0, 0, 1, 59);
        x.write(0, 0);
        x.read(0, 1);
        x.game(0, 5, 0);
        x.digest();
        x.lose(0);
    }
}
