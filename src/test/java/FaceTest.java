import java.lang.reflect.Array;
import java.lang.reflect.Constructor;
import java.lang.reflect.Field;
import java.lang.reflect.Method;
import java.lang.reflect.Modifier;
import java.nio.file.Files;
import java.nio.file.Path;
import java.util.ArrayDeque;
import java.util.Arrays;
import java.util.Deque;
import java.util.IdentityHashMap;
import java.util.List;
import java.util.Map;
import java.util.Set;
import java.util.TreeSet;

/** The class's face as the document tells it, what room an object takes, and the rules of LANGUAGE.md that a text shows. */
public final class FaceTest {
    private static final String FACE = """
            public boolean PegLaws.feel(int,int,int)
            public boolean PegLaws.mark(int,boolean)
            public boolean PegLaws.take(int)
            public boolean PegLaws.undo()
            public int PegLaws.ask(int)
            public int PegLaws.buy(int)
            public int PegLaws.change(int)
            public int PegLaws.clashes()
            public int PegLaws.cloth(int,int)
            public int PegLaws.count(int)
            public int PegLaws.day()
            public int PegLaws.decades(int,int,int)
            public int PegLaws.dry(int)
            public int PegLaws.feed(long,long,long)
            public int PegLaws.fill(int,int)
            public int PegLaws.free()
            public int PegLaws.hang(int,int)
            public int PegLaws.holds(int)
            public int PegLaws.hour()
            public int PegLaws.judged(int)
            public int PegLaws.laws()
            public int PegLaws.line()
            public int PegLaws.mend(int)
            public int PegLaws.odds(int,int)
            public int PegLaws.peg(int,int)
            public int PegLaws.rests(int,int,int,int) throws java.util.NoSuchElementException
            public int PegLaws.starts()
            public int PegLaws.wash(int)
            public static final int PegLaws.NONE
            public PegLaws()
            """;

    private static int wrong = 0;

    private static void check(boolean so, String what) {
        if (!so) {
            wrong++;
            System.out.println("not so: " + what);
        }
    }

    private static void face() {
        Set<String> due = new TreeSet<>(Arrays.asList(FACE.strip().split("\\s*\n\\s*")));
        Set<String> got = new TreeSet<>();
        Set<String> names = new TreeSet<>();
        for (Method m : PegLaws.class.getDeclaredMethods()) {
            if (!Modifier.isPrivate(m.getModifiers())) {
                got.add(m.toGenericString());
                names.add(m.getName());
            }
        }
        for (Field f : PegLaws.class.getDeclaredFields()) {
            if (!Modifier.isPrivate(f.getModifiers())) {
                got.add(f.toGenericString());
            }
            check(!Modifier.isStatic(f.getModifiers()) || Modifier.isFinal(f.getModifiers()), f + " is final");
        }
        for (Constructor<?> c : PegLaws.class.getDeclaredConstructors()) {
            got.add(c.toGenericString());
        }
        check(got.equals(due), "the face is " + got);
        check(Modifier.isFinal(PegLaws.class.getModifiers()), "the class is final");
        for (Method m : PegLaws.class.getDeclaredMethods()) {
            check(!Modifier.isPrivate(m.getModifiers()) || !names.contains(m.getName()), "no private method is called " + m.getName());
        }
        for (Class<?> inside : PegLaws.class.getDeclaredClasses()) {
            check(Modifier.isStatic(inside.getModifiers()) && Modifier.isPrivate(inside.getModifiers()), inside + " is private, static");
            for (Method m : inside.getDeclaredMethods()) {
                check(!names.contains(m.getName()), "no method of " + inside + " is called " + m.getName());
                check(m.getParameterCount() <= 7, m + " has seven parameters at most");
            }
        }
        check(PegLaws.class.getDeclaredClasses().length < 12, "twelve classes at most");
    }

    /** Objects and elements that one object holds: they are all made with it and none later. */
    private static long[] room(Object root) throws IllegalAccessException {
        Map<Object, Boolean> seen = new IdentityHashMap<>();
        Deque<Object> open = new ArrayDeque<>(List.of(root));
        long elements = 0;
        while (!open.isEmpty()) {
            Object o = open.pop();
            if (seen.put(o, true) != null) {
                continue;
            }
            if (o.getClass().isArray()) {
                elements += Array.getLength(o);
                for (int i = 0; i < Array.getLength(o) && !o.getClass().getComponentType().isPrimitive(); i++) {
                    open.push(Array.get(o, i));
                }
                continue;
            }
            for (Field f : o.getClass().getDeclaredFields()) {
                if (!Modifier.isStatic(f.getModifiers())) {
                    elements++;
                    f.setAccessible(true);
                    if (!f.getType().isPrimitive()) {
                        open.push(f.get(o));
                    }
                }
            }
        }
        return new long[] {seen.size(), elements};
    }

    private static void rooms() throws IllegalAccessException {
        PegLaws x = new PegLaws();
        long[] made = room(x);
        // Even 512 objects of a run fit into its one room.
        check(made[0] * 512 < 600000 && made[1] * 512 < 7300000, "room of " + made[0] + " objects, " + made[1] + " elements");
        x.line();
        x.buy(3);
        x.hour();
        x.mark(0, false);
        check(Arrays.equals(made, room(x)), "nothing more is kept");
    }

    private static void language() throws java.io.IOException {
        List<String> lines = Files.readAllLines(Path.of("src/main/java/PegLaws.java"));
        int from = -1;
        for (int i = 0; i < lines.size(); i++) {
            String s = lines.get(i);
            String at = "line " + (i + 1) + ": " + s;
            if (s.startsWith("import ")) {
                check(s.equals("import java.util.Arrays;") || s.equals("import java.util.NoSuchElementException;"), at);
            }
            for (String word : new String[] {"->", "::", "finally", "synchronized", "assert", "catch", "double", "float", "Exact(",
                "static {", "record ", "package ", "@", "while", "\" +", "+ \""}) {
                check(!s.contains(word), at + " has no " + word);
            }
            if (s.contains("new ") && !s.strip().startsWith("//")) {
                check(s.matches("\\s+private .* = new .*|\\s+throw new .*|\\s+(steps|markedStates|markedFelts)\\[i] = new .*"), at);
            }
            check(s.chars().allMatch(c -> c >= 32 && c < 127), at + " is plain");
            if (s.matches(" {4}(    )?[a-z].*\\) (throws .*)?\\{")) {
                from = i;
            }
            if (from >= 0 && s.matches(" {4}(    )?\\}")) {
                check(i - from < 60, "the method that ends in line " + (i + 1) + " is short");
                from = -1;
            }
        }
    }

    public static void main(String[] args) throws Exception {
        face();
        rooms();
        language();
        System.out.println(wrong == 0 ? "the face is as due" : wrong + " faults");
        if (wrong != 0) {
            System.exit(1);
        }
    }
}
