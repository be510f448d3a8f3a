import java.io.IOException;
import java.nio.file.Files;
import java.nio.file.Path;

/** A room with helpers that feed texts and read answers as strings; shared by the tests. */
final class Desk {
    private static int checks = 0;
    private static int wrong = 0;
    private static String sentence = "";
    private static String document = "";
    final TypeRoom room = new TypeRoom();

    static void same(String what, Object due, Object got) {
        checks++;
        if (!due.equals(got)) {
            wrong++;
            System.out.println((sentence.isEmpty() ? "" : "[" + sentence + "] ") + what + "\n  due: " + due + "\n  got: " + got);
        }
    }

    /** The document's words that the answers behind this rest on: they must stand in it, if it is there to be read. */
    static void says(String words) {
        sentence = words;
        Path path = Path.of("../shared/DOC.md");
        if (document.isEmpty() && Files.exists(path)) {
            document = read(path).replaceAll("\\s+", " ");
        }
        same("is said in the document", true, document.isEmpty() || document.contains(words));
    }

    private static String read(Path path) {
        try {
            return Files.readString(path);
        } catch (IOException unreadable) {
            return "";
        }
    }

    /** Ends the test program: exit code 1 if an answer was not as due. */
    static void close() {
        System.out.println(checks + " answers looked at, " + wrong + " wrong");
        if (wrong != 0 || checks == 0) {
            System.exit(1);
        }
    }

    /** Puts a text on the tape, eight signs a number. */
    int feed(String text) {
        int there = room.count(0);
        for (int at = 0; at < text.length(); at += 24) {
            long[] parts = new long[3];
            for (int i = 0; i < 24; i++) {
                long sign = at + i < text.length() ? text.charAt(at + i) : 0;
                parts[i / 8] = parts[i / 8] << 8 | sign;
            }
            there = room.feed(parts[0], parts[1], parts[2]);
        }
        return there;
    }

    int write(String text) {
        feed(text);
        return room.write();
    }

    int set(String text) {
        write(text);
        return room.set();
    }

    int tell(String text) {
        feed(text);
        return room.tell();
    }

    /** What a text is told as, or the number that tell() answered, with a ! ahead. */
    String told(String text) {
        int answer = tell(text);
        return answer < 0 ? "!" + answer : answer();
    }

    /** Spends work until just so much is spent ever: adding nothing costs what the manuscript has. */
    void spend(int ever) {
        write(times("x", 4000));
        for (int i = 0; i < 100 && ever - room.count(14) >= 4000; i++) {
            room.add();
        }
        write(times("x", ever - room.count(14)));
        room.add();
        same("work that was to be spent", ever, room.count(14));
    }

    String answer() {
        StringBuilder out = new StringBuilder();
        for (int k = 0; room.answer(k) != TypeRoom.NONE; k++) {
            out.append((char) room.answer(k));
        }
        return out.toString();
    }

    String manuscript() {
        StringBuilder out = new StringBuilder();
        for (int k = 0; room.letter(k) != TypeRoom.NONE; k++) {
            out.append((char) room.letter(k));
        }
        return out.toString();
    }

    String line(int page, int line) {
        StringBuilder out = new StringBuilder();
        for (int k = 0; k < room.length(page, line); k++) {
            out.append((char) room.sign(page, line, k));
        }
        return out.toString();
    }

    String styles(int page, int line) {
        StringBuilder out = new StringBuilder();
        for (int k = 0; k < room.length(page, line); k++) {
            out.append(room.style(page, line, k));
        }
        return out.toString();
    }

    /** All lines of a page, each with a / behind it. */
    String page(int page) {
        StringBuilder out = new StringBuilder();
        for (int i = 0; i < room.lines(page); i++) {
            out.append(line(page, i)).append('/');
        }
        return out.toString();
    }

    /** All pages, each with a = behind it. */
    String proof() {
        StringBuilder out = new StringBuilder();
        for (int p = 0; p < room.pages(); p++) {
            out.append(page(p)).append('=');
        }
        return out.toString();
    }

    String origins(int page) {
        StringBuilder out = new StringBuilder();
        for (int i = 0; i < room.lines(page); i++) {
            out.append(room.origin(page, i)).append(' ');
        }
        return out.toString().trim();
    }

    /** Sets a text and shows its pages, or the fault as kind@line. */
    String shown(String text) {
        int fault = set(text);
        return fault == 0 ? proof() : "fault " + fault % 16 + "@" + fault / 16;
    }

    /** What a text is set as in a room of its own. */
    static String setNew(String text) {
        return new Desk().shown(text);
    }

    static String toldNew(String text) {
        return new Desk().told(text);
    }

    static String times(String text, int times) {
        StringBuilder out = new StringBuilder();
        for (int i = 0; i < times; i++) {
            out.append(text);
        }
        return out.toString();
    }
}
