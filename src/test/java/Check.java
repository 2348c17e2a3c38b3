import java.io.IOException;
import java.nio.file.Files;
import java.nio.file.Path;

/** What every test needs: a tape fed with a text, answers held against those that are due, a closing line. */
final class Check {
    private static final Path DOCUMENT = Path.of("../shared/DOC.md");
    private final String name;
    private String document = null;
    private String said = "";
    private int asked = 0;
    private int wrong = 0;

    Check(String name) {
        this.name = name;
    }

    void due(String call, long got, long want) {
        asked++;
        if (got != want) {
            wrong++;
            System.out.println(name + ": " + said + call + " answered " + got + ", due is " + want);
        }
    }

    /** What is asked from now on is what these words of the document say; they must stand there, sign by sign. */
    void says(String words) {
        said = "\"" + words + "\": ";
        if (document == null) {
            document = readDocument();
        }
        due("the document has these words", document.isEmpty() || document.contains(words), true);
    }

    /** With one blank for each gap, so that words may be told over the ends of lines; empty if there is none. */
    private static String readDocument() {
        try {
            return Files.exists(DOCUMENT) ? Files.readString(DOCUMENT).replaceAll("\\s+", " ") : "";
        } catch (IOException e) {
            return "";
        }
    }

    /** A hall whose text is fine. */
    StrokeHall fine(String text) {
        StrokeHall hall = new StrokeHall();
        tape(hall, text);
        due("text() is fine of " + text, hall.text() > 0, true);
        due("fault(0) of " + text, hall.fault(0), 0);
        due("fault(1) of " + text, hall.fault(1), StrokeHall.NONE);
        return hall;
    }

    void due(String call, boolean got, boolean want) {
        due(call, got ? 1 : 0, want ? 1 : 0);
    }

    /** Bytes behind those on the tape, twenty a feed, cut to what they are. */
    static void tape(StrokeHall hall, String text) {
        tape(hall, 0, text);
    }

    static void tape(StrokeHall hall, int there, String text) {
        for (int at = 0; at < text.length(); at += 20) {
            int[] n = new int[5];
            for (int k = 0; k < 20; k++) {
                int octet = at + k < text.length() ? text.charAt(at + k) & 255 : 32;
                n[k / 4] = n[k / 4] << 8 | octet;
            }
            hall.feed(n[0], n[1], n[2], n[3], n[4]);
        }
        hall.end(there + text.length());
    }

    static StrokeHall told(String text) {
        StrokeHall hall = new StrokeHall();
        tape(hall, text);
        hall.text();
        return hall;
    }

    /** A text that is none: its fault stands where ^ does. */
    void textFault(int fault, String marked) {
        StrokeHall hall = new StrokeHall();
        textFaultOf(hall, fault, marked);
        due("hall(0) behind " + marked, hall.hall(0), 0);
    }

    void textFaultOf(StrokeHall hall, int fault, String marked) {
        int place = marked.indexOf('^');
        tape(hall, marked.replace("^", ""));
        due("text() of " + marked, hall.text(), StrokeHall.NONE);
        due("fault(0) of " + marked, hall.fault(0), fault);
        due("fault(1) of " + marked, hall.fault(1), place);
    }

    void askFault(StrokeHall hall, int fault, String marked) {
        int place = marked.indexOf('^');
        tape(hall, marked.replace("^", ""));
        due("ask() of " + marked, hall.ask(), StrokeHall.NOTHING);
        due("fault(0) of " + marked, hall.fault(0), fault);
        due("fault(1) of " + marked, hall.fault(1), place);
    }

    void asks(StrokeHall hall, String question, long want) {
        tape(hall, question);
        due("ask() of " + question, hall.ask(), want);
        due("fault(0) of " + question, hall.fault(0), 0);
        due("fault(1) of " + question, hall.fault(1), StrokeHall.NONE);
    }

    void finish() {
        System.out.println(name + ": " + asked + " answers, " + wrong + " wrong");
        if (wrong > 0) {
            System.exit(1);
        }
    }
}
