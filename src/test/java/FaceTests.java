import java.lang.reflect.Constructor;
import java.lang.reflect.Field;
import java.lang.reflect.Method;
import java.lang.reflect.Modifier;
import java.nio.file.Files;
import java.nio.file.Path;
import java.util.Arrays;
import java.util.List;
import java.util.Random;
import java.util.Set;
import java.util.TreeSet;
import java.util.regex.Matcher;
import java.util.regex.Pattern;

/** The public face, the rules of LANGUAGE.md that can be seen from outside, and calls with the wildest numbers. */
public final class FaceTests {
    private static final String[] FACE = {
        "int feed(int,int,int,int,int)", "int room(int)", "int fault()", "int where()", "int bench(int,int)",
        "int person(int,int)", "int may(int,int)", "int content()", "int warmest(int)", "int rents()", "int heatFor()",
        "int packed()", "int packedAt(int)", "int cheapest()", "int packedWithout(int)", "int bestSeat()",
        "int coal(int,int)", "int couples()", "int spouse(int)", "int mayMarry(int)", "int fed()", "int eats(int,int)",
        "int left(int)", "int trains()", "int trainAt(int)", "int comes(int)", "int surely(int)", "int listen()",
        "int listenLeaves()", "int drawn(int)", "int believers(int)", "int settled()", "int won()", "int prophet()",
        "int shout(int,int,int,boolean)", "int rests(int)", "int rest(int)", "int years(int,int)",
        "int yearsAt(int,int,int)", "int happy(int,int,int)", "boolean sit(int,int)", "boolean stand(int)",
        "boolean preach(int,int)", "int round()", "int day()", "boolean undo()", "int image()", "boolean back(int)",
        "int led(int)", "int size(int)", "int trouble()"};

    private static int passed;
    private static int failed;

    private FaceTests() {
    }

    public static void main(String[] args) throws Exception {
        face();
        nestedClasses();
        source(Files.readString(Path.of(args.length > 0 ? args[0] : ".", "src/main/java/BenchColony.java")));
        wildNumbers();
        System.out.println(passed + " passed, " + failed + " failed");
        if (failed > 0) {
            System.exit(1);
        }
    }

    private static void check(String what, boolean good) {
        if (good) {
            passed++;
        } else {
            failed++;
            System.out.println("not so: " + what);
        }
    }

    private static String told(Method m) {
        StringBuilder types = new StringBuilder();
        for (Class<?> type : m.getParameterTypes()) {
            types.append(types.length() == 0 ? "" : ",").append(type.getName());
        }
        return m.getReturnType().getName() + " " + m.getName() + "(" + types + ")";
    }

    private static void face() throws Exception {
        Class<BenchColony> c = BenchColony.class;
        check("public final", Modifier.isPublic(c.getModifiers()) && Modifier.isFinal(c.getModifiers()));
        Set<String> seen = new TreeSet<>();
        Set<String> names = new TreeSet<>();
        for (Method m : c.getDeclaredMethods()) {
            if (!Modifier.isPrivate(m.getModifiers())) {
                check(m + " is public", Modifier.isPublic(m.getModifiers()) && !Modifier.isStatic(m.getModifiers()));
                seen.add(told(m));
                names.add(m.getName());
            }
        }
        check("the methods are those of the document: " + seen, seen.equals(new TreeSet<>(Arrays.asList(FACE))));
        for (Method m : c.getDeclaredMethods()) {
            check(m + " bears no public name", !Modifier.isPrivate(m.getModifiers()) || !names.contains(m.getName()));
        }
        Constructor<?>[] made = c.getDeclaredConstructors();
        check("one constructor", made.length == 1 && Modifier.isPublic(made[0].getModifiers())
            && made[0].getParameterCount() == 0);
        for (Field f : c.getDeclaredFields()) {
            check(f + " is private, or NONE", Modifier.isPrivate(f.getModifiers()) || f.getName().equals("NONE"));
        }
        Field none = c.getField("NONE");
        check("NONE", none.getType() == int.class && Modifier.isStatic(none.getModifiers())
            && Modifier.isFinal(none.getModifiers()) && none.getInt(null) == -1);
        Method led = c.getMethod("led", int.class);
        check("led tells what it throws", List.of(led.getExceptionTypes()).equals(
            List.of(java.util.NoSuchElementException.class)));
    }

    private static void nestedClasses() {
        Class<?>[] inside = BenchColony.class.getDeclaredClasses();
        check("some twelve classes", inside.length <= 11);
        for (Class<?> c : inside) {
            check(c + " is static and not public", Modifier.isStatic(c.getModifiers())
                && !Modifier.isPublic(c.getModifiers()) && !Modifier.isProtected(c.getModifiers()));
            long fields = Arrays.stream(c.getDeclaredFields()).filter(f -> !Modifier.isStatic(f.getModifiers())).count();
            check(c + " has at most twenty fields", fields <= 20);
            for (Method m : c.getDeclaredMethods()) {
                check(m + " takes at most seven", m.getParameterCount() <= 7);
                check(m + " bears no name of the face",
                    Arrays.stream(FACE).noneMatch(face -> face.contains(" " + m.getName() + "(")));
            }
            for (Field f : c.getDeclaredFields()) {
                check(f + " is final if static", !Modifier.isStatic(f.getModifiers())
                    || Modifier.isFinal(f.getModifiers()));
            }
        }
    }

    private static void source(String text) {
        check("no package", !Pattern.compile("(?m)^\\s*package\\b").matcher(text).find());
        Matcher imports = Pattern.compile("(?m)^import (.*);").matcher(text);
        while (imports.find()) {
            check("import " + imports.group(1),
                List.of("java.util.Arrays", "java.util.NoSuchElementException").contains(imports.group(1)));
        }
        String code = text.replaceAll("(?s)/\\*.*?\\*/", "").replaceAll("//[^\n]*", "").replaceAll("\"[^\"\n]*\"", "\"\"");
        for (String banned : new String[] {"->", "::", "\\btry\\b", "\\bcatch\\b", "\\bfinally\\b", "\\bsynchronized\\b",
            "\\bassert\\b", "\\bRandom\\b", "\\bSystem\\.(?!arraycopy)", "\\bThread\\b", "Exact\\(", "\\bdouble\\b",
            "\\bfloat\\b", "@", "\\bvar\\b", "\\bObject\\b", "\"\" \\+", "\\+ \"\"", "\\[\\]\\[\\]\\[\\]",
            "\\bvolatile\\b", "\\bstatic\\s*\\{", "\\bprotected\\b", "new String", "\\bnull\\b"}) {
            check("the source has no " + banned, !Pattern.compile(banned).matcher(code).find());
        }
        check("one throw", code.split("\\bthrow new\\b", -1).length == 2);
        for (int i = 0; i < text.length(); i++) {
            if (text.charAt(i) > 126) {
                check("plain signs alone", false);
            }
        }
        shortMethods(code);
    }

    private static void shortMethods(String code) {
        String name = "";
        int lines = 0;
        for (String line : code.split("\n")) {
            Matcher m = Pattern.compile("^( {4}| {8})\\w.*\\b(\\w+)\\(.*\\{$").matcher(line);
            boolean control = line.matches("^ *(if|for|while|switch|do|\\}).*");
            if (m.find() && !control) {
                check(name + " is short", name.isEmpty() || lines <= 60);
                name = m.group(2);
                lines = 0;
            }
            lines++;
        }
    }

    /** Nothing but led ever throws, whatever the numbers, with a ROOM and without one. */
    private static void wildNumbers() {
        String text = "room wide 9 tall 9 stove 4 4 heat 60 stock 200;bench a open at 0 0 seats 3 rent 30;"
            + "bench b upper at 8 8 seats 3 rent 30;bench c island at 4 5 seats 3 rent 0;bench d open at 5 4 seats 3 rent 1;"
            + "bench e upper at 3 4 seats 3 rent 2;bench f island at 4 3 seats 3 rent 3;person p third for x cold 60 on d;"
            + "person q first for x cold 0 on e;person r lady for x cold 56 on f;person s child for x cold 1 on a;"
            + "person t third for x cold 2;person u first for x cold 3;person v lady for x cold 4;heeds p q weight 9;"
            + "heeds q r weight 9;heeds r s weight 9;heeds s t weight 9;heeds t u weight 9;heeds u v weight 9;"
            + "heeds v p weight 9;denies p;believes q;denies r";
        int[] wild = {Integer.MIN_VALUE, Integer.MIN_VALUE + 1, -65537, -1000, -100, -33, -32, -7, -6, -5, -4, -3, -2, -1, 0,
            1, 2, 3, 4, 5, 6, 7, 8, 9, 13, 14, 16, 20, 21, 31, 32, 33, 60, 64, 77, 90, 91, 99, 100, 999, 1000, 1001, 65536,
            65537, 1 << 30, Integer.MAX_VALUE - 1, Integer.MAX_VALUE};
        Random random = new Random(1);
        for (int run = 0; run < 400; run++) {
            BenchColony x = new BenchColony();
            if (run % 4 != 0) {
                Face.feed(x, text);
                check("a ROOM", x.room(text.length()) == 6);
            }
            for (int i = 0; i < 450; i++) {
                String[] call = Face.CALLS[random.nextInt(Face.CALLS.length)].split(" ");
                int[] numbers = new int[Integer.parseInt(call[1])];
                for (int k = 0; k < numbers.length; k++) {
                    numbers[k] = wild[random.nextInt(wild.length)];
                }
                String why = "";
                try {
                    Face.call(x, call[0], numbers);
                } catch (RuntimeException e) {
                    why = e.toString();
                }
                check(call[0] + Arrays.toString(numbers) + " " + why, why.isEmpty());
            }
        }
    }
}
