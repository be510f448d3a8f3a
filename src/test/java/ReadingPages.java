import java.util.ArrayList;
import java.util.List;

/** Part 6 of the document as it is read by the model: where pages end, and what they show. */
final class ReadingPages {
    static final Object SPACE = new Object();
    static final Object CUT = new Object();

    /** A line as it is shown. */
    static final class Shown {
        final String text;
        final List<Integer> styles = new ArrayList<>();
        int origin;
        boolean put;

        Shown(String text) {
            this.text = text;
            for (int k = 0; k < text.length(); k++) {
                styles.add(0);
            }
        }

        Shown(ReadingLines.Line line) {
            text = ReadingText.plain(line.signs);
            for (int k = 0; k < text.length(); k++) {
                styles.add(line.styleOf(k));
            }
            origin = line.origin;
            put = line.put;
        }
    }

    private final Reading room;
    private final List<Object> flow;
    private final int high;
    private final List<Integer> begins = new ArrayList<>();
    private final List<Integer> ends = new ArrayList<>();

    ReadingPages(Reading room) {
        this.room = room;
        flow = room.round.flow;
        high = room.it("high") - 2 * room.it("head");
        int at = 0;
        while (at < flow.size()) {
            if (flow.get(at) instanceof ReadingLines.Line) {
                if (begins.size() == 99) {
                    throw new ReadingText.Fault(9);
                }
                begins.add(at);
                at = endOf(at);
                ends.add(at);
            }
            at++;
        }
    }

    int count() {
        return begins.size();
    }

    private boolean isOver(int at) {
        return at + 1 == flow.size() || flow.get(at + 1) == CUT;
    }

    private List<ReadingText.Mark> notes(int from, int to) {
        List<ReadingText.Mark> out = new ArrayList<>();
        for (Object one : flow.subList(from, to + 1)) {
            if (one instanceof ReadingLines.Line) {
                out.addAll(((ReadingLines.Line) one).notes);
            }
        }
        return out;
    }

    private List<ReadingLines.Line> noteLines(int from, int to) {
        List<ReadingLines.Line> out = new ArrayList<>();
        for (ReadingText.Mark note : notes(from, to)) {
            out.addAll(room.round.noteLines.get(note));
        }
        return out;
    }

    private boolean fits(int from, int to) {
        int notes = noteLines(from, to).size();
        return to - from + 1 + (notes > 0 ? notes + 1 : 0) <= high;
    }

    private int endOf(int from) {
        int last = from;
        while (!isOver(last) && last - from < high) {
            last++;
        }
        if (isOver(last) && fits(from, last)) {
            return last;
        }
        int latest = -1;
        for (int at = last; at >= from; at--) {
            if (flow.get(at) instanceof ReadingLines.Line && fits(from, at)) {
                latest = Math.max(latest, at);
                if (((ReadingLines.Line) flow.get(at)).mayEnd) {
                    return at;
                }
            }
        }
        return latest >= 0 ? latest : from;
    }

    int pageOf(ReadingLines.Line line) {
        int at = flow.indexOf(line);
        int page = 0;
        while (ends.get(page) < at) {
            page++;
        }
        return page;
    }

    List<List<Shown>> show() {
        List<List<Shown>> out = new ArrayList<>();
        for (int page = 0; page < begins.size(); page++) {
            out.add(show(page));
        }
        return out;
    }

    private List<Shown> show(int page) {
        List<Shown> out = new ArrayList<>();
        if (room.it("head") == 1) {
            out.add(new Shown(head(page)));
            out.add(new Shown(""));
        }
        for (Object one : flow.subList(begins.get(page), ends.get(page) + 1)) {
            out.add(one == SPACE ? new Shown("") : new Shown((ReadingLines.Line) one));
        }
        List<ReadingLines.Line> notes = noteLines(begins.get(page), ends.get(page));
        if (!notes.isEmpty()) {
            int most = Math.min(notes.size(), room.it("high") - out.size() - 1);
            while (out.size() < room.it("high") - most - 1) {
                out.add(new Shown(""));
            }
            out.add(new Shown("----------"));
            for (ReadingLines.Line line : notes.subList(0, most)) {
                out.add(new Shown(line));
            }
        }
        return out;
    }

    private String head(int page) {
        String title = "";
        for (Reading.Heading heading : room.round.headings) {
            if (heading.level == 1 && flow.indexOf(heading.first) <= begins.get(page)) {
                title = heading.title;
            }
        }
        String label = room.round.labelOf(page);
        int wide = room.it("wide");
        title = title.substring(0, Math.min(title.length(), Math.max(0, wide - 1 - label.length())));
        return title + " ".repeat(Math.max(0, wide - title.length() - label.length())) + label;
    }
}
