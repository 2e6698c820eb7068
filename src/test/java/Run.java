import java.lang.reflect.InvocationTargetException;
import java.lang.reflect.Method;
import java.util.ArrayList;
import java.util.HashMap;
import java.util.List;
import java.util.Map;
import java.util.regex.Matcher;
import java.util.regex.Pattern;

/** A run of calls on one object, written as they are told in issues: hang(0,3)=14 take(0)=true. */
final class Run {
    private static final int MOST_CALLS = 512;
    private static final Pattern ROW = Pattern.compile("(\\w+)\\(([^)]*)\\)=(\\S+)");
    private static final Map<String, Method> FACE = new HashMap<>();

    private final PegLaws laws = new PegLaws();
    private final List<String> done = new ArrayList<>();

    static {
        for (Method method : PegLaws.class.getMethods()) {
            FACE.put(method.getName(), method);
        }
    }

    /** Signs onto the TAPE, 24 a call. */
    Run put(String text) {
        for (int i = 0; i < text.length(); i += 24) {
            long[] abc = new long[3];
            for (int k = 0; k < 24; k++) {
                abc[k / 8] = abc[k / 8] << 8 | (i + k < text.length() ? text.charAt(i + k) : 0);
            }
            answer("feed(" + abc[0] + "," + abc[1] + "," + abc[2] + ")");
        }
        return this;
    }

    /** Calls, blanks between, each with the answer that is due. */
    Run calls(String rows) {
        Matcher row = ROW.matcher(rows);
        int end = 0;
        while (row.find()) {
            Edges.check(rows.substring(end, row.start()).isBlank(), "a row can be read: " + rows);
            end = row.end();
            String call = row.group(1) + "(" + row.group(2) + ")";
            String got = answer(call);
            Edges.check(got.equals(row.group(3)), call + " answered " + got + ", due is " + row.group(3) + story());
        }
        Edges.check(rows.substring(end).isBlank(), "a row can be read: " + rows);
        return this;
    }

    /** The same call so many times. */
    Run times(int many, String row) {
        for (int i = 0; i < many; i++) {
            calls(row);
        }
        return this;
    }

    int callsLeft() {
        return MOST_CALLS - done.size();
    }

    /** Calls that are due to change nothing: all that can be told of the object is as of one without them. */
    Run refused(String rows) {
        return stays(() -> calls(rows));
    }

    Run stays(Runnable refusal) {
        Run twin = new Run();
        for (String call : done) {
            twin.answer(call);
        }
        refusal.run();
        List<String> due = new ArrayList<>();
        for (String call : trail()) {
            due.add(call + "=" + twin.answer(call));
        }
        return calls(String.join(" ", due));
    }

    String answer(String call) {
        done.add(call);
        Edges.check(done.size() <= MOST_CALLS, "an object is used for 512 calls at most" + story());
        String name = call.substring(0, call.indexOf('('));
        String told = call.substring(call.indexOf('(') + 1, call.length() - 1);
        Method method = FACE.get(name);
        try {
            return String.valueOf(method.invoke(laws, arguments(method.getParameterTypes(), told)));
        } catch (InvocationTargetException e) {
            return e.getCause().getClass().getSimpleName();
        } catch (IllegalAccessException e) {
            throw new IllegalStateException(e);
        }
    }

    private static Object[] arguments(Class<?>[] types, String told) {
        String[] texts = told.isEmpty() ? new String[0] : told.split(",");
        Object[] arguments = new Object[types.length];
        for (int i = 0; i < types.length; i++) {
            if (types[i] == int.class) {
                arguments[i] = Integer.parseInt(texts[i]);
            } else if (types[i] == long.class) {
                arguments[i] = Long.parseLong(texts[i]);
            } else {
                arguments[i] = Boolean.parseBoolean(texts[i]);
            }
        }
        return arguments;
    }

    /** Calls that show what an object holds; they undo all and go back to all MARKS, so it is spent then. */
    private static List<String> trail() {
        List<String> calls = new ArrayList<>();
        add(calls, "count", 0, 12);
        for (int i = 0; i < 8; i++) {
            add(calls, "peg", i, 0, 1);
        }
        for (int i = 0; i < 6; i++) {
            add(calls, "cloth", i, 0, 7);
        }
        calls.addAll(List.of("free()", "laws()", "clashes()", "mend(0)", "mend(1)", "starts()", "ask(0)", "judged(0)",
                "judged(1)", "judged(2)", "holds(0)", "odds(0,3)", "fill(2,-1)", "dry(0)", "change(3)", "decades(7,9,0)",
                "decades(7,9,2)"));
        for (int i = 0; i < 17; i++) {
            calls.addAll(List.of("undo()", "count(1)", "count(4)", "count(6)", "free()", "cloth(0,1)"));
        }
        for (int i = 0; i < 4; i++) {
            calls.addAll(List.of("mark(" + i + ",true)", "count(1)", "count(3)", "count(4)", "count(10)", "starts()",
                    "free()", "laws()", "cloth(0,1)", "cloth(0,2)"));
        }
        return calls;
    }

    private static void add(List<String> calls, String name, int from, int to) {
        for (int i = from; i <= to; i++) {
            calls.add(name + "(" + i + ")");
        }
    }

    private static void add(List<String> calls, String name, int first, int from, int to) {
        for (int i = from; i <= to; i++) {
            calls.add(name + "(" + first + "," + i + ")");
        }
    }

    private String story() {
        return ", behind " + (done.size() > 60 ? ".. " : "") + done.subList(Math.max(0, done.size() - 60), done.size());
    }
}
