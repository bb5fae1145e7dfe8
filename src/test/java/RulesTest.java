import java.lang.management.ManagementFactory;
import java.lang.reflect.Array;
import java.lang.reflect.Constructor;
import java.lang.reflect.Field;
import java.lang.reflect.Method;
import java.lang.reflect.Modifier;
import java.nio.file.Files;
import java.nio.file.Path;
import java.util.ArrayList;
import java.util.Arrays;
import java.util.Collections;
import java.util.HashSet;
import java.util.IdentityHashMap;
import java.util.List;
import java.util.Random;
import java.util.Set;
import java.util.TreeSet;
import java.util.regex.Matcher;
import java.util.regex.Pattern;

/** The rules of LANGUAGE.md that can be looked at from outside: the face, the words of the source, what a run makes. */
public final class RulesTest {
    private static final String FACE = "feed(IIIII)I lab(I)I fault(I)I lane(II)I stress(I)I drift(I)I passes(II)I row(II)I "
            + "risen(I)I place(II)I train(II)I ticks(I)I follow(I)I pattern(I)I undo(I)I judge(II)I perform(I)I day(II)I "
            + "area(I)I eyes(I)I greatest(I)I rectangle(II)I ellipse(II)I margin(II)I edge(I)I lag(I)I bus(I)I "
            + "harshest(I)I tell(II)I later(II)I holds(I)I follows(I)I at(II)I steps(I)I way(II)I ways(II)J drifts(II)I "
            + "attempt(II)I chance(III)I mean(II)I numbers(III)I write(IIJ)J lists(II)I image(I)I restore(I)I count(I)I";
    private static final int[] FAR = {Integer.MIN_VALUE, Integer.MIN_VALUE + 1, -1000, -2, -1, 0, 1, 2, 3, 4, 5, 6, 7, 16, 24,
        40, 99, 383, 384, 900, 999, 9999, 65536, Integer.MAX_VALUE - 1, Integer.MAX_VALUE};

    private static int wrong;

    public static void main(String[] args) throws Exception {
        lookAtFace();
        lookAtSource();
        farArguments();
        whatRunsMake();
        whatObjectsHold();
        System.out.println(wrong == 0 ? "the rules are kept" : wrong + " rules are broken");
        if (wrong != 0) {
            System.exit(1);
        }
    }

    private static void say(boolean fine, String what) {
        if (!fine) {
            wrong++;
            System.out.println(what);
        }
    }

    private static String letters(Class<?>... types) {
        StringBuilder s = new StringBuilder();
        for (Class<?> t : types) s.append(t == int.class ? "I" : t == long.class ? "J" : "?");
        return s.toString();
    }

    private static void lookAtFace() {
        Class<?> c = EyeTrainer.class;
        say(c.getModifiers() == (Modifier.PUBLIC | Modifier.FINAL), "rule 1: the class is public and final");
        Set<String> found = new TreeSet<>();
        Set<String> publicNames = new HashSet<>();
        for (Method m : c.getDeclaredMethods()) {
            if (Modifier.isPrivate(m.getModifiers())) continue;
            found.add(m.getName() + "(" + letters(m.getParameterTypes()) + ")" + letters(m.getReturnType()));
            publicNames.add(m.getName());
            say(m.getModifiers() == Modifier.PUBLIC, "rule 1: " + m);
        }
        say(found.equals(new TreeSet<>(Arrays.asList(FACE.split(" ")))), "rule 1: the face is " + found);
        for (Field f : c.getDeclaredFields()) {
            say(Modifier.isPrivate(f.getModifiers()) || f.getName().equals("NONE"), "rule 1: " + f);
        }
        for (Constructor<?> k : c.getDeclaredConstructors()) {
            say(k.getModifiers() == Modifier.PUBLIC && k.getParameterCount() == 0, "rule 1: " + k);
        }
        List<Class<?>> all = new ArrayList<>(List.of(c.getDeclaredClasses()));
        say(all.size() <= 11, "rule 11: classes");
        for (Class<?> inner : all) {
            say(Modifier.isStatic(inner.getModifiers()), "rule 2: " + inner);
            say(!Modifier.isPublic(inner.getModifiers()), "rule 1: " + inner);
        }
        all.add(c);
        for (Class<?> one : all) {
            int fields = 0;
            for (Field f : one.getDeclaredFields()) {
                if (Modifier.isStatic(f.getModifiers())) say(Modifier.isFinal(f.getModifiers()), "rule 5: " + f);
                else fields++;
            }
            say(fields <= 20, "rule 11: fields of " + one);
            for (Method m : one.getDeclaredMethods()) {
                say(m.getParameterCount() <= 7, "rule 11: " + m);
                say(one == c && Modifier.isPublic(m.getModifiers()) || !publicNames.contains(m.getName()), "rule 1: " + m);
            }
        }
    }

    private static void lookAtSource() throws Exception {
        String source = Files.readString(Path.of("src/main/java/EyeTrainer.java"));
        say(source.chars().allMatch(v -> v < 128), "rule 4: a sign above 127");
        String bare = source.replaceAll("(?s)/\\*.*?\\*/", "").replaceAll("//[^\n]*", "");
        for (String line : bare.split("\n")) {
            if (line.startsWith("import")) say(line.equals("import java.util.Arrays;"), "rule 4: " + line);
        }
        say(!bare.contains("package "), "no package line");
        String words = bare.replaceAll("\"[^\"\n]*\"", "\"\"").replaceAll("'[^'\n]+'", "' '");
        for (String bad : "throw try catch finally synchronized assert double float var record yield native volatile".split(" ")) {
            say(!Pattern.compile("\\b" + bad + "\\b").matcher(words).find(), "rules 3, 6: " + bad);
        }
        say(!words.contains("->") && !words.contains("::"), "rule 2: a lambda");
        say(!words.contains("\" +") && !words.contains("+ \""), "rule 10: texts joined by +");
        say(!words.contains("while (true)") && !words.contains("for (;"), "rule 9: a loop without an end");
        for (String library : "System Integer Long Math Arrays String".split(" ")) {
            Matcher m = Pattern.compile("\\b" + library + "\\.(\\w+)").matcher(words);
            while (m.find()) {
                boolean known = Set.of("fill", "copyOf", "max", "min", "abs", "bitCount", "floorMod").contains(m.group(1));
                say(known, "rule 4: " + m.group());
            }
        }
        lookAtLengths(words.split("\n"));
    }

    /** A method begins with a line that ends in ') {' and is no statement; its end has the same margin. */
    private static void lookAtLengths(String[] lines) {
        for (int i = 0; i < lines.length; i++) {
            if (!lines[i].matches("( {4}| {8})(public|private|static|int|long|void|boolean|[A-Z]\\w*).*\\) \\{")) continue;
            String end = lines[i].replaceAll("\\S.*", "") + "}";
            int last = i;
            while (!lines[last].equals(end)) last++;
            say(last - i < 60, "rule 11: a long method: " + lines[i].trim());
        }
    }

    private static final String[] LABS = {"lab aspect 9 hold 9;lane at 23 level 15 wide 24 high 16;lane at 0 level 0 wide 1 high 1;"
            + "pattern 9;pattern 0;drifts : time - 50;", "lab aspect 1 hold 1;lane at 3 level 3 wide 3 high 3;pattern 1;"
            + "passes : delay * level > 30 + drift * 3 - stress or lane = delay;edge : delay * drift > lane;drifts : time * time;"};

    /** Rule 7: whatever the arguments, a call answers. */
    private static void farArguments() {
        Random lots = new Random(7);
        String[] names = Arrays.stream(FACE.split(" ")).map(s -> s.substring(0, s.indexOf('('))).toArray(String[]::new);
        for (int run = 0; run < 400; run++) {
            EyeTrainer x = new EyeTrainer();
            if (run % 3 > 0) Calls.tell(x, LABS[run % 2]);
            for (int i = 0; i < 400; i++) {
                String name = names[lots.nextInt(names.length)];
                long[] a = new long[5];
                for (int k = 0; k < 5; k++) a[k] = FAR[lots.nextInt(FAR.length)];
                if (lots.nextInt(3) > 0) a[0] = lots.nextInt(3);
                if (name.equals("write") && lots.nextInt(3) == 0) a[2] = lots.nextLong();
                try {
                    Calls.call(x, name, a);
                } catch (RuntimeException e) {
                    say(false, "rule 7: " + name + Arrays.toString(a) + " threw " + e);
                }
            }
        }
    }

    /** A run of 512 calls makes far less than the room holds, whichever call it is. */
    private static void whatRunsMake() {
        com.sun.management.ThreadMXBean bean = (com.sun.management.ThreadMXBean) ManagementFactory.getThreadMXBean();
        long id = Thread.currentThread().getId();
        for (String sort : FACE.split(" ")) {
            String name = sort.substring(0, sort.indexOf('('));
            long before = bean.getThreadAllocatedBytes(id);
            EyeTrainer x = new EyeTrainer();
            Calls.tell(x, LABS[1]);
            x.numbers(0, 2, 8);
            for (int i = 0; i < 480; i++) Calls.call(x, name, 0, name.equals("way") ? i : 1, 0, 0, 0);
            long made = bean.getThreadAllocatedBytes(id) - before;
            say(made < 1000000, "rule 12: 480 calls of " + name + " made " + made + " bytes");
        }
    }

    /** Though each of 512 calls of a run made a new object, all of it would fit into the room. */
    private static void whatObjectsHold() throws Exception {
        Set<Object> known = Collections.newSetFromMap(new IdentityHashMap<>());
        long held = fieldsAndElements(new EyeTrainer(), known);
        say(512 * held < 7300000, "rule 12: a new object has " + held + " fields and elements");
        say(512 * known.size() < 600000, "rule 12: a new object is made of " + known.size() + " objects");
    }

    private static long fieldsAndElements(Object o, Set<Object> known) throws Exception {
        if (o == null || !known.add(o)) return 0;
        long sum = 0;
        if (o.getClass().isArray()) {
            sum = Array.getLength(o);
            if (o instanceof Object[] parts) for (Object part : parts) sum += fieldsAndElements(part, known);
            return sum;
        }
        for (Field f : o.getClass().getDeclaredFields()) {
            if (Modifier.isStatic(f.getModifiers())) continue;
            f.setAccessible(true);
            sum += 1 + (f.getType().isPrimitive() ? 0 : fieldsAndElements(f.get(o), known));
        }
        return sum;
    }
}
