import java.lang.management.ManagementFactory;
import java.lang.reflect.Constructor;
import java.lang.reflect.Field;
import java.lang.reflect.Method;
import java.lang.reflect.Modifier;
import java.nio.file.Files;
import java.nio.file.Path;
import java.util.Arrays;
import java.util.Set;
import java.util.TreeSet;
import java.util.regex.Matcher;
import java.util.regex.Pattern;

/** The public face is the document's and no more; the source keeps to LANGUAGE.md where a look at it can tell; calls make no objects. */
public final class FaceTest {
    private static final String[] FACE = {
        "int say(int)", "int wipe()", "int fault()", "int word(int)", "int about(int,int)", "int often(int,int)",
        "long has(int,int,int)", "int common(int)", "long ruled(int)", "int knows(int,int,int)", "int mix(int,int,int)",
        "int read(int,int,int)", "int share(int)", "int gives(int,int)", "int order(int)", "int most(int,int,int)",
        "int tale(int,int)", "int answer(int,boolean)", "int clear()", "int may()", "long lacks(int,int)", "int tells()",
        "int test()", "int respelt(int,int)", "int price(int)", "int lessons(int,int)", "int shared(int,int)",
        "int itself(int,int,int)", "int line(int)", "int image(int)", "int restore(int)", "int told(int)"};
    private static final String[] NOT_IN_SOURCE = {"throw", "throws", "try", "catch", "synchronized", "assert", "package",
        "protected", "System.out", "->", "::", "hashCode", "toString", "equals", "Exact", "double", "float", "while"};
    private static int passed = 0;
    private static int failed = 0;

    private static void check(String what, boolean holds) {
        if (holds) {
            passed++;
            return;
        }
        failed++;
        System.out.println("not so: " + what);
    }

    public static void main(String[] args) throws Exception {
        checkMethods();
        checkFieldsAndConstructor();
        checkClassesInside();
        checkSource(Files.readString(Path.of(args.length > 0 ? args[0] : "src/main/java/WordsFirst.java")));
        checkRoom();
        System.out.println(passed + " passed, " + failed + " failed");
        if (failed > 0) System.exit(1);
    }

    private static String told(Method m) {
        StringBuilder b = new StringBuilder(m.getReturnType() + " " + m.getName() + "(");
        for (int i = 0; i < m.getParameterCount(); i++) b.append(i > 0 ? "," : "").append(m.getParameterTypes()[i]);
        return b.append(")").toString();
    }

    private static void checkMethods() {
        Set<String> open = new TreeSet<>();
        Set<String> openNames = new TreeSet<>();
        for (Method m : WordsFirst.class.getDeclaredMethods()) {
            if (Modifier.isPrivate(m.getModifiers())) continue;
            open.add(told(m));
            openNames.add(m.getName());
            check(told(m) + " is public", Modifier.isPublic(m.getModifiers()));
            check(told(m) + " is not static", !Modifier.isStatic(m.getModifiers()));
        }
        check("the methods are the document's: " + open, open.equals(new TreeSet<>(Arrays.asList(FACE))));
        for (Method m : WordsFirst.class.getDeclaredMethods()) {
            if (Modifier.isPrivate(m.getModifiers())) check(m.getName() + " is no public name", !openNames.contains(m.getName()));
        }
        for (Class<?> inside : WordsFirst.class.getDeclaredClasses()) {
            for (Method m : inside.getDeclaredMethods()) check(inside.getName() + "." + m.getName() + " is no public name", !openNames.contains(m.getName()));
        }
    }

    private static void checkFieldsAndConstructor() {
        Set<String> open = new TreeSet<>();
        for (Field f : WordsFirst.class.getDeclaredFields()) {
            if (Modifier.isStatic(f.getModifiers())) check(f + " is final", Modifier.isFinal(f.getModifiers()));
            if (!Modifier.isPrivate(f.getModifiers())) open.add(f.toString());
        }
        Set<String> due = new TreeSet<>();
        for (String name : new String[] {"UNKNOWN", "OUTSIDE", "STATE", "FULL", "NO", "NONE"}) due.add("public static final int WordsFirst." + name);
        due.add("public static final long WordsFirst.LOST");
        check("the constants are the document's: " + open, open.equals(due));
        Constructor<?>[] all = WordsFirst.class.getDeclaredConstructors();
        check("one public constructor without parameters", all.length == 1 && all[0].getParameterCount() == 0 && Modifier.isPublic(all[0].getModifiers()));
        check("public final", Modifier.isFinal(WordsFirst.class.getModifiers()) && Modifier.isPublic(WordsFirst.class.getModifiers()));
    }

    private static void checkClassesInside() {
        Class<?>[] inside = WordsFirst.class.getDeclaredClasses();
        check("at most twelve classes", inside.length + 1 <= 12);
        for (Class<?> c : inside) {
            check(c + " is static and not public", Modifier.isStatic(c.getModifiers()) && !Modifier.isPublic(c.getModifiers()) && !Modifier.isProtected(c.getModifiers()));
            check(c + " has at most twenty fields", c.getDeclaredFields().length <= 20);
            for (Field f : c.getDeclaredFields()) check(f + " is not static", !Modifier.isStatic(f.getModifiers()));
        }
    }

    private static void checkSource(String source) {
        String code = source.replaceAll("(?s)/\\*.*?\\*/", " ").replaceAll("//[^\n]*", " ");
        for (String word : NOT_IN_SOURCE) {
            boolean letters = Character.isLetter(word.charAt(0));
            Pattern p = letters ? Pattern.compile("\\b" + Pattern.quote(word) + "\\b") : Pattern.compile(Pattern.quote(word));
            check("no '" + word + "' in the source", !p.matcher(code).find());
        }
        Matcher imports = Pattern.compile("import ([^;]+);").matcher(code);
        while (imports.find()) check("import " + imports.group(1), imports.group(1).equals("java.util.Arrays"));
        Matcher calls = Pattern.compile("\\b(Math|Integer|Long|Arrays|System)\\.(\\w+)").matcher(code);
        Set<String> allowed = Set.of("Math.min", "Math.max", "Integer.bitCount", "Arrays.fill", "System.arraycopy");
        while (calls.find()) check("the library's " + calls.group(), allowed.contains(calls.group()));
        check("only signs 1 to 127", source.chars().allMatch(c -> c > 0 && c < 128));
        checkLengths(code);
    }

    private static void checkLengths(String code) {
        int start = -1;
        String[] lines = code.split("\n", -1);
        for (int i = 0; i < lines.length; i++) {
            if (lines[i].matches(" {4}( {4})?[\\w\\[\\] ]+\\([^;]*\\) \\{")) start = i;
            if (start >= 0 && lines[i].matches(" {4}( {4})?\\}")) {
                check("a method of " + (i - start + 1) + " lines from line " + (start + 1) + " on", i - start + 1 <= 60);
                start = -1;
            }
        }
    }

    /** All calls of a run share one room: what a call makes anew would be counted 512 times. */
    private static void checkRoom() {
        com.sun.management.ThreadMXBean bean = (com.sun.management.ThreadMXBean) ManagementFactory.getThreadMXBean();
        long id = Thread.currentThread().getId();
        WordsFirst x = new WordsFirst();
        fillBook(x);
        useAll(x);
        bean.getThreadAllocatedBytes(id);
        long before = bean.getThreadAllocatedBytes(id);
        long nothing = bean.getThreadAllocatedBytes(id) - before;
        before = bean.getThreadAllocatedBytes(id);
        useAll(x);
        long used = bean.getThreadAllocatedBytes(id) - before - nothing;
        check("calls make no objects: " + used + " bytes", used <= 256);
        before = bean.getThreadAllocatedBytes(id);
        new WordsFirst().told(0);
        used = bean.getThreadAllocatedBytes(id) - before;
        check("an object with all its rows takes " + used + " bytes", used < 40000);
    }

    private static void fillBook(WordsFirst x) {
        char[] text = {'a', 'a', '=', '0', '0'};
        for (int w = 0; w < 12; w++) {
            text[0] = (char) ('a' + w % 4);
            text[1] = (char) ('a' + w % 3);
            text[3] = (char) ('0' + w % 4);
            text[4] = (char) ('0' + w % 3);
            for (char c : text) x.say(c);
            x.word(1 + w);
        }
        for (int c = 0; c < 4; c++) x.knows(c, 0, 1023);
    }

    private static void useAll(WordsFirst x) {
        x.say('a');
        x.fault();
        x.word(3);
        x.wipe();
        x.about(0, 3);
        x.often(0, x.about(0, 1) % 900 + 1);
        x.has(0, 0, 1);
        x.common(0);
        x.ruled(1);
        x.knows(0, 0, 511);
        x.mix(0, 1, 2);
        x.read(0, 1, 1);
        x.share(0);
        x.gives(3, 3);
        x.order(-1);
        x.most(5, 3, 2);
        x.tale(1, -1);
        x.answer(0, true);
        x.may();
        x.lacks(2, 0);
        x.tells();
        x.test();
        x.clear();
        x.respelt(0, 0);
        x.price(1);
        x.lessons(0, 3);
        x.shared(12, -1);
        x.itself(0, 300, 1);
        x.line(0);
        x.image(0);
        x.restore(0);
        x.told(3);
    }
}
