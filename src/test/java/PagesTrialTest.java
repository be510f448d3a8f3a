import java.util.ArrayList;
import java.util.List;

/** Part 6 read word by word: pages of many texts, and what it costs to set them, held against the room. */
public final class PagesTrialTest {
    private static int seed = 11;

    public static void main(String[] args) {
        for (int round = 0; round < 1500; round++) {
            new Trial().go();
        }
        Desk.close();
    }

    private static int random(int below) {
        seed = seed * 1103515245 + 12345;
        return (seed >>> 10) % below;
    }

    /** What comes to pages: a line, with the lines of the notes that it carries, a space, or a cut. */
    private static final class Piece {
        final String line;
        final boolean cut;
        final boolean mayEnd;
        final int origin;
        final List<String> notes = new ArrayList<>();
        String title;

        Piece(String line, boolean cut, boolean mayEnd, int origin) {
            this.line = line;
            this.cut = cut;
            this.mayEnd = mayEnd;
            this.origin = origin;
        }

        boolean isLine() {
            return line != null;
        }
    }

    private static final class Trial {
        private final StringBuilder text = new StringBuilder();
        private final List<Piece> flow = new ArrayList<>();
        private int lines;
        private int gap = 1;
        private int keep = 2;
        private int notes;
        private int headings;
        private int work;
        private boolean begun;
        private boolean item;

        void go() {
            int high = 5 + random(8);
            int head = random(2);
            put("@set high " + high);
            put("@set head " + head);
            put("@set wide 14");
            put("@set indent 0");
            put("@set justify 0");
            work = 5 * 15;
            for (int i = 1 + random(9); i > 0; i--) {
                work += 15;
                block();
            }
            Desk desk = new Desk();
            Desk.same(text.toString(), pages(high, head), shown(desk, text.toString()));
            // Headings are marks: a second round finds them as they were.
            Desk.same("work of " + text, (headings > 0 ? 2 : 1) * (lines + work), desk.room.count(13));
        }

        private void put(String line) {
            text.append(line).append('\n');
            lines++;
        }

        private void block() {
            switch (random(8)) {
                case 0:
                    gap = random(4);
                    put("@set gap " + gap);
                    item = false;
                    break;
                case 1:
                    keep = random(4);
                    put("@set keep " + keep);
                    item = false;
                    break;
                case 2:
                    put("@page");
                    flow.add(new Piece(null, true, false, 0));
                    item = false;
                    break;
                case 3:
                    heading();
                    break;
                case 4:
                    table();
                    break;
                case 5:
                    raw();
                    break;
                default:
                    words(random(3) == 0);
            }
        }

        /** A line that is made. */
        private Piece made(String line, boolean mayEnd, int origin) {
            work += 20 + line.length();
            Piece piece = new Piece(line, false, mayEnd, origin);
            flow.add(piece);
            return piece;
        }

        private void spaces(int many) {
            for (int i = 0; begun && i < many; i++) {
                flow.add(new Piece(null, false, false, 0));
            }
            begun = true;
        }

        private void heading() {
            headings++;
            spaces(Math.max(1, gap));
            put("= h");
            work++;
            made(headings + " h", false, lines).title = headings + " h";
            item = false;
        }

        private void raw() {
            spaces(gap);
            int first = lines + 1;
            for (int i = 1 + random(7); i > 0; i--) {
                put(">r" + i);
                made("r" + i, true, first);
            }
            put("");
            item = false;
        }

        /** Rows of one column, some of two lines. */
        private void table() {
            spaces(gap);
            int first = lines + 1;
            int rows = 1 + random(4);
            for (int i = 0; i < rows; i++) {
                boolean two = i > 0 && random(2) == 0;
                put(two ? "|cccccccccccccc d" : "|cccccccccccccc");
                work += 15 + (two ? 16 : 14);
                made("cccccccccccccc", i > 0 && !two, first);
                if (two) {
                    made("d", true, first);
                }
                if (i == 0) {
                    made("--------------", false, first);
                }
            }
            put("");
            item = false;
        }

        /** A paragraph or an item of words that have a line each, some with notes. */
        private void words(boolean asItem) {
            spaces(asItem && item ? 0 : gap);
            int many = 1 + random(7);
            StringBuilder row = new StringBuilder(asItem ? "- " : "");
            for (int i = 0; i < many; i++) {
                boolean mayEnd = i + 1 == many || i + 1 >= keep && many - i - 1 >= keep;
                String word = "wwwwwww" + i;
                String shown = (asItem ? i == 0 ? "- " : "  " : "") + word;
                List<String> below = new ArrayList<>();
                work += word.length() + (i > 0 ? 1 : 0);
                if (random(6) == 0) {
                    notes++;
                    shown += "[" + notes + "]";
                    String note = Desk.times("nnnnnnnn ", 1 + random(random(5) == 0 ? 9 : 3)).trim();
                    word += "\\note{" + note + "}";
                    work += 20 + 5 + note.length() + ("[" + notes + "]").length();
                    String ahead = notes + ". ";
                    for (String part : note.split(" ")) {
                        below.add(ahead + part);
                        work += 20 + ahead.length() + part.length();
                        ahead = Desk.times(" ", ahead.length());
                    }
                }
                row.append(i > 0 ? " " : "").append(word);
                made(shown, mayEnd, lines + 1).notes.addAll(below);
            }
            put(row.toString());
            if (!asItem || random(2) == 0) {
                put("");
                item = false;
            } else {
                item = true;
            }
        }

        private String pages(int high, int head) {
            StringBuilder out = new StringBuilder();
            int room = high - 2 * head;
            int at = 0;
            int number = 1;
            while (at < flow.size()) {
                if (!flow.get(at).isLine()) {
                    at++;
                } else {
                    int end = end(at, room);
                    out.append(page(at, end, room, head == 1, number));
                    number++;
                    at = end + 1;
                }
            }
            return out.toString();
        }

        private int noteLines(int from, int to) {
            int sum = 0;
            for (int i = from; i <= to; i++) {
                sum += flow.get(i).notes.size();
            }
            return sum;
        }

        private boolean fits(int from, int to, int room) {
            int below = noteLines(from, to);
            return to - from + 1 + (below > 0 ? below + 1 : 0) <= room;
        }

        private int end(int from, int room) {
            for (int i = from; i < flow.size(); i++) {
                boolean stops = i + 1 == flow.size() || flow.get(i + 1).cut;
                if (flow.get(i).isLine() && stops) {
                    if (fits(from, i, room)) {
                        return i;
                    }
                    break;
                }
            }
            for (int i = flow.size() - 1; i >= from; i--) {
                if (flow.get(i).isLine() && flow.get(i).mayEnd && fits(from, i, room)) {
                    return i;
                }
            }
            for (int i = flow.size() - 1; i >= from; i--) {
                if (flow.get(i).isLine() && fits(from, i, room)) {
                    return i;
                }
            }
            return from;
        }

        private String page(int from, int end, int room, boolean head, int number) {
            StringBuilder out = new StringBuilder();
            if (head) {
                String title = "";
                for (int i = 0; i <= from; i++) {
                    title = flow.get(i).title == null ? title : flow.get(i).title;
                }
                String label = "" + number;
                out.append("0:").append(title).append(Desk.times(" ", 14 - title.length() - label.length())).append(label).append("/0:/");
            }
            List<String> below = new ArrayList<>();
            for (int i = from; i <= end; i++) {
                Piece piece = flow.get(i);
                out.append(piece.origin).append(':').append(piece.isLine() ? piece.line : "").append('/');
                for (String note : piece.notes) {
                    below.add(piece.origin + ":" + note);
                }
            }
            if (!below.isEmpty()) {
                int left = room - (end - from + 1) - 1;
                out.append(Desk.times("0:/", left - below.size())).append("0:----------/");
                for (int i = 0; i < below.size() && i < left; i++) {
                    out.append(below.get(i)).append('/');
                }
            }
            return out.append('=').toString();
        }
    }

    /** All pages with the origins of their lines. */
    private static String shown(Desk desk, String text) {
        int fault = desk.set(text);
        if (fault != 0) {
            return "fault " + fault;
        }
        StringBuilder out = new StringBuilder();
        for (int page = 0; page < desk.room.pages(); page++) {
            for (int line = 0; line < desk.room.lines(page); line++) {
                out.append(desk.room.origin(page, line)).append(':').append(desk.line(page, line)).append('/');
            }
            out.append('=');
        }
        return out.toString();
    }
}
