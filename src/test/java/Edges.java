import java.io.IOException;
import java.nio.file.Files;
import java.nio.file.Path;

/** What the tests of edges share: each sentence of the document is named, then the calls that reach its edges. */
abstract class Edges {
    static final String MIN = String.valueOf(Integer.MIN_VALUE);
    static final String MAX = String.valueOf(Integer.MAX_VALUE);

    private static String document = read(Path.of("../shared/DOC.md"));
    private static String at = "";
    private static int sentences = 0;
    private static int asked = 0;
    private static int wrong = 0;

    private static String read(Path path) {
        try {
            return Files.exists(path) ? plain(Files.readString(path)) : "";
        } catch (IOException e) {
            return "";
        }
    }

    private static String plain(String text) {
        return text.replaceAll("\\s+", " ");
    }

    /** Promise 0 is what stands ahead of the promises. */
    static void sentence(int promise, String words) {
        sentences++;
        at = (promise == 0 ? "terms" : "promise " + promise) + ", '" + words + "'";
        check(document.isEmpty() || document.contains(plain(words)), "the document says so");
    }

    static void check(boolean so, String what) {
        asked++;
        if (!so) {
            wrong++;
            System.out.println(at + ": " + what);
        }
    }

    static Run made() {
        return new Run();
    }

    static Run told(String text) {
        return new Run().put(text).calls("line()=0");
    }

    static String cloth(String name, String kind, int wide, int weight, int worth) {
        return "cloth " + name + " " + kind + " wide " + wide + " weight " + weight + " worth " + worth + " ; ";
    }

    /** A LINE whose wrong token stands behind the sign @; all stays. */
    static void lineFault(int kind, String text) {
        fault("line", kind, text);
    }

    static void dayFault(int kind, String text) {
        fault("day", kind, text);
    }

    private static void fault(String call, int kind, String text) {
        Run run = busy();
        int place = text.indexOf('@');
        run.stays(() -> run.put(text.replace("@", "")).calls(call + "()=" + (kind + 16 * place)));
    }

    /** What can be read as a LINE, or not as one at all: 0, or the FAULT. */
    static void line(int fault, String text) {
        made().put(text).calls("line()=" + fault);
    }

    /** An object in which there is something of all: CLOTHS that hang and fell, a DAY, FELT, MARKS, deeds to undo. */
    static Run busy() {
        return told(cloth("aa", "plain", 5, 1, 10) + cloth("bb", "sheet", 6, 2, 30) + cloth("cc", "flag", 2, 0, 7)
                + "pegs 5 4 6 7 8 9 2 ; winds 2 5 3 ; gusts 4 ; yards 25 ; clash aa bb ; clash bb cc ;")
                .put("buy 3 ; hang aa 0 1 ; hour ; take bb ; hour ; hour ;")
                .calls("day()=0 hang(2,64)=23 hour()=1 mark(1,false)=true hang(0,3)=20 feel(0,1,4)=true")
                .calls("hang(1,60)=14 mark(3,false)=true hour()=0 buy(3)=7 wash(2)=1 feel(2,0,9)=true");
    }

    static void finish() {
        System.out.println(wrong == 0 ? asked + " answers to " + sentences + " sentences are as due"
                : wrong + " answers are not as due");
        if (wrong != 0) {
            System.exit(1);
        }
    }
}
