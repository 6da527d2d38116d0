import java.io.PrintWriter;
import java.io.StringWriter;
import java.lang.reflect.Constructor;
import java.lang.reflect.Field;
import java.lang.reflect.Method;
import java.lang.reflect.Modifier;
import java.nio.charset.StandardCharsets;
import java.nio.file.Files;
import java.nio.file.Path;
import java.util.ArrayList;
import java.util.HashMap;
import java.util.List;
import java.util.Map;
import java.util.Set;
import java.util.TreeSet;
import java.util.regex.Matcher;
import java.util.regex.Pattern;
import java.util.spi.ToolProvider;

/** The face of the class, and what of ../shared/LANGUAGE.md can be seen from the text and the class files. */
public final class RulesTest {
    private static int passed;
    private static int failed;

    private static final String[] FACE = {
        "int feed(int,int,int,int,int)", "int end(int)", "int land()", "int line(int,int)", "int place(int,int)", "int so(int)",
        "long chance(int)", "long sure(int,boolean)", "long matters(int,int)", "int most()", "int useless()", "int ways(boolean)",
        "int way(boolean,int)", "long ends(int,int)", "int row(int)", "int mending(int,int,int)", "long mend(int)", "int mended(int)",
        "long add(int,int)", "int plan(int)", "long judge(int)", "long without(int)", "int letter(int,int,boolean)",
        "long thought(int,int)", "int look()", "long within(int,int,int)", "int soon(int,int,int)", "int draw(int,int)",
        "int joined(int,int)", "long alone(int)", "long alike(int)", "int even()", "int trees()", "int looks(int)",
        "long mean(int,int,int)", "long differ(int,int,int)", "int image(int)", "int restore(int)", "int count(int)"};

    private static void is(String what, boolean so) {
        if (so) {
            passed++;
        } else {
            failed++;
            System.out.println("not so: " + what);
        }
    }

    private static String signature(Method m) {
        StringBuilder b = new StringBuilder(m.getReturnType().getSimpleName() + " " + m.getName() + "(");
        for (Class<?> c : m.getParameterTypes()) {
            b.append(b.charAt(b.length() - 1) == '(' ? "" : ",").append(c.getSimpleName());
        }
        return b.append(")").toString();
    }

    private static void face() {
        Class<?> c = LetterThrough.class;
        is("public and final", Modifier.isPublic(c.getModifiers()) && Modifier.isFinal(c.getModifiers()));
        Set<String> due = new TreeSet<>(List.of(FACE));
        Set<String> names = new TreeSet<>();
        for (Method m : c.getDeclaredMethods()) {
            boolean open = !Modifier.isPrivate(m.getModifiers());
            if (open) {
                names.add(m.getName());
            }
            is("of the face, or private: " + m, open == due.remove(signature(m)) && (!open || Modifier.isPublic(m.getModifiers())));
        }
        is("nothing of the face is missing: " + due, due.isEmpty());
        for (Field f : c.getDeclaredFields()) {
            is("private: " + f, Modifier.isPrivate(f.getModifiers()) || f.getName().equals("NONE"));
            is("static and final: " + f, !Modifier.isStatic(f.getModifiers()) || Modifier.isFinal(f.getModifiers()));
        }
        Constructor<?>[] constructors = c.getDeclaredConstructors();
        is("one constructor", constructors.length == 1 && constructors[0].getParameterCount() == 0);
        is("at most twelve classes", c.getDeclaredClasses().length < 12);
        inside(c, names);
        for (Class<?> part : c.getDeclaredClasses()) {
            is("static: " + part, Modifier.isStatic(part.getModifiers()) && !Modifier.isPublic(part.getModifiers()));
            inside(part, names);
        }
    }

    private static void inside(Class<?> c, Set<String> names) {
        int fields = 0;
        for (Field f : c.getDeclaredFields()) {
            fields += Modifier.isStatic(f.getModifiers()) ? 0 : 1;
        }
        is("some twenty fields: " + c + " has " + fields, fields <= 20);
        for (Method m : c.getDeclaredMethods()) {
            is("seven parameters: " + m, m.getParameterCount() <= 7);
            is("no name of the face: " + m, c == LetterThrough.class && Modifier.isPublic(m.getModifiers()) || !names.contains(m.getName()));
        }
    }

    private static void text() throws Exception {
        String source = Files.readString(Path.of("src/main/java/LetterThrough.java"), StandardCharsets.ISO_8859_1);
        is("signs 1 to 127", source.chars().allMatch(ch -> ch > 0 && ch < 128));
        String code = source.replaceAll("(?s)/\\*.*?\\*/", "").replaceAll("//.*", "").replaceAll("\"[^\"]*\"", "\"\"");
        String[] words = {"throw", "throws", "try", "catch", "finally", "synchronized", "assert", "instanceof", "package", "record",
            "enum", "interface", "var", "yield", "Object", "System.out", "Thread", "Random", "volatile", "transient", "native", "new String"};
        for (String word : words) {
            is("without " + word, !Pattern.compile("\\b" + Pattern.quote(word) + "\\b").matcher(code).find());
        }
        is("no lambda", !code.contains("->") && !code.contains("::"));
        is("no static block", !Pattern.compile("static\\s*\\{").matcher(code).find());
        Matcher imports = Pattern.compile("import ([^;]*);").matcher(code);
        while (imports.find()) {
            is("import " + imports.group(1), imports.group(1).equals("java.util.Arrays"));
        }
        Set<String> calls = new TreeSet<>();
        Matcher m = Pattern.compile("\\b(Math|Arrays|Integer|Long|System)\\.(\\w+)").matcher(code);
        while (m.find()) {
            calls.add(m.group());
        }
        Set<String> allowed = Set.of("Math.min", "Math.max", "Math.abs", "Arrays.fill", "Integer.bitCount", "System.arraycopy");
        is("library: " + calls, allowed.containsAll(calls));
        is("short lines", source.lines().allMatch(line -> line.length() <= 130));
        methods(source);
    }

    private static void methods(String source) {
        List<String> lines = source.lines().toList();
        List<Integer> starts = new ArrayList<>();
        for (int i = 0; i < lines.size(); i++) {
            if (lines.get(i).matches(" {4,8}[\\w\\[\\] ]+\\([^;]*\\) \\{")) {
                starts.add(i);
            }
        }
        is("methods are seen", starts.size() > 100);
        for (int start : starts) {
            String close = lines.get(start).replaceAll("\\S.*", "") + "}";
            int end = start;
            while (!lines.get(end).equals(close)) {
                end++;
            }
            is("some sixty lines: " + lines.get(start), end - start < 60);
        }
    }

    /** By javap: which method calls which, to see that none calls itself and none goes more than eight deep. */
    private static void depth() throws Exception {
        Map<String, Set<String>> calls = new HashMap<>();
        Path home = Path.of(LetterThrough.class.getProtectionDomain().getCodeSource().getLocation().toURI());
        List<String> args = new ArrayList<>(List.of("-p", "-c", home.resolve("LetterThrough.class").toString()));
        for (Class<?> part : LetterThrough.class.getDeclaredClasses()) {
            args.add(home.resolve(part.getName() + ".class").toString());
        }
        StringWriter out = new StringWriter();
        ToolProvider.findFirst("javap").orElseThrow().run(new PrintWriter(out), new PrintWriter(out), args.toArray(new String[0]));
        Pattern type = Pattern.compile("(?:\\w+ )*class (\\S+) \\{");
        Pattern method = Pattern.compile("  (?:[\\w\\[\\].$]+ )*([\\w$.]+)\\(.*\\);");
        Pattern invoke = Pattern.compile(".*invoke\\w+ .*// Method ([\\w.$]+):.*");
        String inside = "";
        String at = "";
        for (String line : out.toString().lines().toList()) {
            Matcher m = type.matcher(line);
            if (m.matches()) {
                inside = m.group(1);
            }
            m = method.matcher(line);
            if (m.matches()) {
                at = inside + "." + m.group(1);
                calls.putIfAbsent(at, new TreeSet<>());
            }
            m = invoke.matcher(line);
            if (m.matches() && !m.group(1).startsWith("java/")) {
                calls.get(at).add(m.group(1).contains(".") ? m.group(1) : inside + "." + m.group(1));
            }
        }
        is("calls are seen", calls.size() > 120);
        for (String name : calls.keySet()) {
            int deep = deep(name, calls, 1);
            is(name + " goes " + deep + " deep", deep <= 8);
        }
    }

    private static int deep(String name, Map<String, Set<String>> calls, int level) {
        int deepest = level;
        for (String next : calls.getOrDefault(name, Set.of())) {
            if (level < 20) {
                deepest = Math.max(deepest, deep(next, calls, level + 1));
            }
        }
        return deepest;
    }

    /** A new object costs little, and no call makes anything once the rows have grown. */
    private static void room() throws Exception {
        com.sun.management.ThreadMXBean meter = (com.sun.management.ThreadMXBean) java.lang.management.ManagementFactory.getThreadMXBean();
        long me = Thread.currentThread().getId();
        new LetterThrough();
        long before = meter.getThreadAllocatedBytes(me);
        LetterThrough x = new LetterThrough();
        long made = meter.getThreadAllocatedBytes(me) - before;
        is("a new object takes " + made + " bytes", made < 20000);
        before = meter.getThreadAllocatedBytes(me);
        use(x);
        long grown = meter.getThreadAllocatedBytes(me) - before;
        is("rows grow by " + grown + " bytes", grown < 1200000);
        before = meter.getThreadAllocatedBytes(me);
        for (int i = 0; i < 4; i++) {
            use(x);
        }
        long again = meter.getThreadAllocatedBytes(me) - before;
        is("then nothing is made: " + again, again < 5000);
    }

    private static final int[] LARGE = pack("places 7;line 0 1 1;line 1 2 2;line 2 3 3;line 3 4 4;line 4 5 5;line 5 6 6;line 0 2 7;line 1 3 8;"
            + "line 2 4 9;line 3 5 10;line 4 6 11;line 0 6 12;cause 9 place 3;keep 1 4;cause 3 line 0;through one 0 6");
    private static final int[] SMALL = pack("places 4;line 0 1 5;line 1 2 5;line 2 3 4;line 0 3 2;line 0 2 8;line 0 3 9;line 0 1 5;line 1 2 5;"
            + "cause 9 place 3;through two 0 3");

    private static int[] pack(String text) {
        int[] numbers = new int[(text.length() + 19) / 20 * 5];
        for (int i = 0; i < numbers.length * 4; i++) {
            numbers[i / 4] = numbers[i / 4] << 8 | (i < text.length() ? text.charAt(i) : ' ');
        }
        return numbers;
    }

    private static void use(LetterThrough x) {
        for (int round = 0; round < 2; round++) {
            int[] n = round == 0 ? LARGE : SMALL;
            for (int i = 0; i < n.length; i += 5) {
                x.feed(n[i], n[i + 1], n[i + 2], n[i + 3], n[i + 4]);
            }
            is("land", x.land() == (round == 0 ? 15 : 9));
            for (int i = 0; i < 9; i++) {
                x.mending(i % 8, i + 1, 13);
            }
            x.letter(0, 1, true);
            x.letter(3, 0, false);
            x.chance(0);
            x.sure(1, true);
            x.matters(1, 0);
            x.most();
            x.useless();
            x.ways(true);
            x.ends(7, 0);
            x.row(3);
            x.mend(20);
            x.add(5, 0);
            x.plan(9);
            x.judge(31);
            x.without(0);
            x.thought(0, 0);
            x.look();
            x.soon(0, 3, 5);
            x.mean(0, 2, 1);
            x.draw(5, 20);
            x.joined(0, 3);
            x.alone(0);
            x.alike(3);
            x.even();
            x.trees();
            x.looks(1);
            x.differ(0, 1, 2);
            x.image(1);
            x.restore(1);
            x.ends(60, 1);
        }
    }

    public static void main(String[] args) throws Exception {
        face();
        text();
        depth();
        room();
        System.out.println(passed + " passed, " + failed + " failed");
        if (failed != 0) {
            System.exit(1);
        }
    }
}
