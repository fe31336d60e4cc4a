import java.lang.management.ManagementFactory;
import java.lang.reflect.Constructor;
import java.lang.reflect.Field;
import java.lang.reflect.Method;
import java.lang.reflect.Modifier;
import java.nio.file.Files;
import java.nio.file.Path;
import java.util.Set;
import java.util.TreeSet;
import java.util.regex.Matcher;
import java.util.regex.Pattern;

/** The public face is the document's and no more; the source keeps to LANGUAGE.md where a look at it can tell; calls make no objects. */
public final class FaceTest {
    private static final String[] NOT_IN_SOURCE = {"throw", "throws", "try", "catch", "synchronized", "assert", "package",
        "protected", "System.out", "->", "::", "hashCode", "toString", "equals", "Exact", "double", "float", "while"};
    private static int passed = 0;
    private static int failed = 0;

    private static void check(String what, boolean holds) {
        if (holds) {
            passed++;
            return;
        }
        failed++;
        System.out.println("not so: " + what);
    }

    public static void main(String[] args) throws Exception {
        String source = Files.readString(Path.of(args.length > 0 ? args[0] : "src/main/java/WordsFirst.java"));
        String document = Files.readString(Path.of(args.length > 1 ? args[1] : "../shared/DOC.md"));
        checkMembers(document);
        checkNothingBeside();
        checkPromises(document, source);
        checkHeadings(document, source);
        checkNames();
        checkClassesInside();
        checkSource(source);
        checkRoom();
        System.out.println(passed + " passed, " + failed + " failed");
        if (failed > 0) System.exit(1);
    }

    /** The document's face: what stands in its one Java block. */
    private static String faceOf(String document) {
        Matcher m = Pattern.compile("(?s)```java\n(.*?)```").matcher(document);
        return m.find() ? m.group(1) : "";
    }

    /** "public int say(int sign)" without the names of its numbers: "public int say(int)". */
    private static String withoutNames(String told) {
        return told.replaceAll("(int|long|boolean) \\w+(?=[,)])", "$1").replace(", ", ",");
    }

    private static Set<String> membersOfFace(String face) {
        Set<String> members = new TreeSet<>();
        for (String line : face.split("\n")) {
            Matcher call = Pattern.compile("^ +(public [\\w ]*\\(.*\\));$").matcher(line);
            if (call.find()) members.add(withoutNames(call.group(1)));
            Matcher constants = Pattern.compile("^ +(public static final \\w+) (.*);$").matcher(line);
            if (!constants.find()) continue;
            for (String constant : constants.group(2).split(", ")) members.add(constants.group(1) + " " + constant.replaceAll("L$", ""));
        }
        return members;
    }

    private static String told(String kind, String name, Class<?>... parameters) {
        StringBuilder b = new StringBuilder("public " + kind + name + "(");
        for (int i = 0; i < parameters.length; i++) b.append(i > 0 ? "," : "").append(parameters[i]);
        return b.append(")").toString();
    }

    private static Set<String> membersOfClass() throws IllegalAccessException {
        Set<String> members = new TreeSet<>();
        for (Method m : WordsFirst.class.getDeclaredMethods()) {
            if (!Modifier.isPublic(m.getModifiers())) continue;
            members.add(told((Modifier.isStatic(m.getModifiers()) ? "static " : "") + m.getReturnType() + " ", m.getName(), m.getParameterTypes()));
        }
        for (Constructor<?> made : WordsFirst.class.getDeclaredConstructors()) {
            if (Modifier.isPublic(made.getModifiers())) members.add(told("", "WordsFirst", made.getParameterTypes()));
        }
        for (Field f : WordsFirst.class.getDeclaredFields()) {
            if (!Modifier.isPublic(f.getModifiers())) continue;
            members.add(Modifier.toString(f.getModifiers()) + " " + f.getType() + " " + f.getName() + " = " + f.get(null));
        }
        return members;
    }

    /** Both ways, so that a missing member is told as well as one that the document does not name. */
    private static void checkMembers(String document) throws IllegalAccessException {
        String face = faceOf(document);
        check("the face is that of a public final class", face.startsWith("public final class WordsFirst {"));
        check("the class is public and final", Modifier.toString(WordsFirst.class.getModifiers()).equals("public final"));
        Set<String> due = membersOfFace(face);
        Set<String> got = membersOfClass();
        check("32 calls, a constructor and 7 constants: " + due.size(), due.size() == 40);
        for (String member : due) check("the class has " + member, got.contains(member));
        for (String member : got) check("the document has " + member, due.contains(member));
    }

    private static void checkNothingBeside() {
        check("no class above it", WordsFirst.class.getSuperclass() == Object.class);
        check("no interface", WordsFirst.class.getInterfaces().length == 0);
        check("one constructor", WordsFirst.class.getDeclaredConstructors().length == 1);
        check("no package", WordsFirst.class.getPackageName().isEmpty());
        for (Method m : WordsFirst.class.getDeclaredMethods()) {
            check(m + " is public or private", Modifier.isPublic(m.getModifiers()) || Modifier.isPrivate(m.getModifiers()));
            check(m + " names no exception", m.getExceptionTypes().length == 0);
        }
        for (Field f : WordsFirst.class.getDeclaredFields()) {
            check(f + " is public or private", Modifier.isPublic(f.getModifiers()) || Modifier.isPrivate(f.getModifiers()));
            if (Modifier.isStatic(f.getModifiers())) check(f + " is final", Modifier.isFinal(f.getModifiers()));
            else check(f + " is private", Modifier.isPrivate(f.getModifiers()));
        }
    }

    /** Each promise names its call as the face does, and the class says at the call which promise it keeps. */
    private static void checkPromises(String document, String source) {
        Matcher m = Pattern.compile("## Promise (\\d+): [^\n]*\n\n`([^`]*)`").matcher(document);
        int promises = 0;
        while (m.find()) {
            promises++;
            check("promise " + m.group(1) + " is the next", Integer.parseInt(m.group(1)) == promises);
            check("promise " + promises + ": the face has " + m.group(2), faceOf(document).contains("public " + m.group(2) + ";"));
            check("promise " + promises + ": the class says so", source.contains("/** Promise " + promises + ". */\n    public " + m.group(2) + " {"));
        }
        check("33 promises", promises == 33);
    }

    /** "Ahead of the calls `say`, .. the interface says: ---- 1 words." */
    private static void checkHeadings(String document, String source) {
        Matcher m = Pattern.compile("Ahead of the calls (.*) the interface says: (---- \\d .*)\\.").matcher(document);
        int headings = 0;
        while (m.find()) {
            headings++;
            int from = source.indexOf("// " + m.group(2) + "\n");
            int to = source.indexOf("// ----", from + 1);
            check("the class says: " + m.group(2), from >= 0 && to > from);
            if (from < 0 || to < from) continue;
            StringBuilder calls = new StringBuilder();
            Matcher call = Pattern.compile("public \\w+ (\\w+)\\(").matcher(source.substring(from, to));
            while (call.find()) calls.append(calls.length() > 0 ? ", " : "").append("`").append(call.group(1)).append("`");
            check(m.group(2) + " stands ahead of " + m.group(1), calls.toString().equals(m.group(1)));
        }
        check("five headings", headings == 5);
    }

    private static void checkNames() {
        Set<String> open = new TreeSet<>();
        for (Method m : WordsFirst.class.getDeclaredMethods()) {
            if (Modifier.isPublic(m.getModifiers())) open.add(m.getName());
        }
        for (Method m : WordsFirst.class.getDeclaredMethods()) {
            if (Modifier.isPrivate(m.getModifiers())) check(m.getName() + " is no public name", !open.contains(m.getName()));
        }
        for (Class<?> inside : WordsFirst.class.getDeclaredClasses()) {
            for (Method m : inside.getDeclaredMethods()) check(inside.getName() + "." + m.getName() + " is no public name", !open.contains(m.getName()));
        }
    }

    private static void checkClassesInside() {
        Class<?>[] inside = WordsFirst.class.getDeclaredClasses();
        check("at most twelve classes", inside.length + 1 <= 12);
        for (Class<?> c : inside) {
            check(c + " is static and not public", Modifier.isStatic(c.getModifiers()) && !Modifier.isPublic(c.getModifiers()) && !Modifier.isProtected(c.getModifiers()));
            check(c + " has at most twenty fields", c.getDeclaredFields().length <= 20);
            for (Field f : c.getDeclaredFields()) check(f + " is not static", !Modifier.isStatic(f.getModifiers()));
        }
    }

    private static void checkSource(String source) {
        String code = source.replaceAll("(?s)/\\*.*?\\*/", " ").replaceAll("//[^\n]*", " ");
        for (String word : NOT_IN_SOURCE) {
            boolean letters = Character.isLetter(word.charAt(0));
            Pattern p = letters ? Pattern.compile("\\b" + Pattern.quote(word) + "\\b") : Pattern.compile(Pattern.quote(word));
            check("no '" + word + "' in the source", !p.matcher(code).find());
        }
        Matcher imports = Pattern.compile("import ([^;]+);").matcher(code);
        while (imports.find()) check("import " + imports.group(1), imports.group(1).equals("java.util.Arrays"));
        Matcher calls = Pattern.compile("\\b(Math|Integer|Long|Arrays|System)\\.(\\w+)").matcher(code);
        Set<String> allowed = Set.of("Math.min", "Math.max", "Integer.bitCount", "Arrays.fill", "System.arraycopy");
        while (calls.find()) check("the library's " + calls.group(), allowed.contains(calls.group()));
        check("only signs 1 to 127", source.chars().allMatch(c -> c > 0 && c < 128));
        checkLengths(code);
    }

    private static void checkLengths(String code) {
        int start = -1;
        String[] lines = code.split("\n", -1);
        for (int i = 0; i < lines.length; i++) {
            if (lines[i].matches(" {4}( {4})?[\\w\\[\\] ]+\\([^;]*\\) \\{")) start = i;
            if (start >= 0 && lines[i].matches(" {4}( {4})?\\}")) {
                check("a method of " + (i - start + 1) + " lines from line " + (start + 1) + " on", i - start + 1 <= 60);
                start = -1;
            }
        }
    }

    /** All calls of a run share one room: what a call makes anew would be counted 512 times. */
    private static void checkRoom() {
        com.sun.management.ThreadMXBean bean = (com.sun.management.ThreadMXBean) ManagementFactory.getThreadMXBean();
        long id = Thread.currentThread().getId();
        WordsFirst x = new WordsFirst();
        fillBook(x);
        useAll(x);
        bean.getThreadAllocatedBytes(id);
        long before = bean.getThreadAllocatedBytes(id);
        long nothing = bean.getThreadAllocatedBytes(id) - before;
        before = bean.getThreadAllocatedBytes(id);
        useAll(x);
        long used = bean.getThreadAllocatedBytes(id) - before - nothing;
        check("calls make no objects: " + used + " bytes", used <= 256);
        before = bean.getThreadAllocatedBytes(id);
        new WordsFirst().told(0);
        used = bean.getThreadAllocatedBytes(id) - before;
        check("an object with all its rows takes " + used + " bytes", used < 40000);
    }

    private static void fillBook(WordsFirst x) {
        char[] text = {'a', 'a', '=', '0', '0'};
        for (int w = 0; w < 12; w++) {
            text[0] = (char) ('a' + w % 4);
            text[1] = (char) ('a' + w % 3);
            text[3] = (char) ('0' + w % 4);
            text[4] = (char) ('0' + w % 3);
            for (char c : text) x.say(c);
            x.word(1 + w);
        }
        for (int c = 0; c < 4; c++) x.knows(c, 0, 1023);
    }

    private static void useAll(WordsFirst x) {
        x.say('a');
        x.fault();
        x.word(3);
        x.wipe();
        x.about(0, 3);
        x.often(0, x.about(0, 1) % 900 + 1);
        x.has(0, 0, 1);
        x.common(0);
        x.ruled(1);
        x.knows(0, 0, 511);
        x.mix(0, 1, 2);
        x.read(0, 1, 1);
        x.share(0);
        x.gives(3, 3);
        x.order(-1);
        x.most(5, 3, 2);
        x.tale(1, -1);
        x.answer(0, true);
        x.may();
        x.lacks(2, 0);
        x.tells();
        x.test();
        x.clear();
        x.respelt(0, 0);
        x.price(1);
        x.lessons(0, 3);
        x.shared(12, -1);
        x.itself(0, 300, 1);
        x.line(0);
        x.image(0);
        x.restore(0);
        x.told(3);
    }
}
