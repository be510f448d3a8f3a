import java.util.ArrayList;
import java.util.Arrays;
import java.util.List;
import java.util.Map;
import java.util.TreeMap;
import java.util.TreeSet;

/** Part 5 of the document as it is read by the model: blocks and their lines, in one round. */
final class ReadingBlocks {
    static final class Block {
        final char kind;
        final int line;
        final boolean behindItem;
        final List<String> lines = new ArrayList<>();

        Block(char kind, int line, boolean behindItem) {
            this.kind = kind;
            this.line = line;
            this.behindItem = behindItem;
        }
    }

    private final Reading room;
    private final ReadingLines filler;
    private final int[] levels = new int[4];
    private final int[] counts = new int[3];

    ReadingBlocks(Reading room) {
        this.room = room;
        filler = new ReadingLines(room);
    }

    private static char kindOf(String line) {
        if (line.matches(" *")) {
            return ' ';
        }
        if (line.matches("={1,3} .*")) {
            return '=';
        }
        if (line.matches("(|  |    )[-#] .*")) {
            return '-';
        }
        return line.matches("[@|>].*") ? line.charAt(0) : 't';
    }

    static List<Block> blocksOf(List<String> lines) {
        List<Block> out = new ArrayList<>();
        Block block = null;
        for (int k = 0; k < lines.size(); k++) {
            char kind = kindOf(lines.get(k));
            boolean item = block != null && block.kind == '-';
            boolean more = block != null && (item ? kind == 't' && lines.get(k).startsWith(" ")
                : kind == block.kind && "|>t".indexOf(kind) >= 0);
            if (!more) {
                block = kind == ' ' ? null : new Block(kind, k + 1, item && kind == '-');
                if (block != null) {
                    out.add(block);
                }
            }
            if (block != null) {
                block.lines.add(lines.get(k));
            }
        }
        return out;
    }

    void go(Block block) {
        room.line = block.line;
        room.spend(15);
        String first = block.lines.get(0);
        switch (block.kind) {
            case '@':
                directive(first);
                break;
            case '=':
                heading(first);
                break;
            case '|':
                new ReadingTable(room, filler, this).set(block.lines);
                break;
            case '>':
                raw(block);
                break;
            default:
                filled(block);
        }
    }

    private void make(ReadingLines.Line line) {
        if (room.round.made == 1500) {
            throw new ReadingText.Fault(9);
        }
        room.spend(20 + line.signs.size());
        room.round.made++;
        line.origin = room.line;
    }

    /** Makes the lines of a block; they flow behind so many spaces. */
    void makeAll(List<ReadingLines.Line> lines, int spaces) {
        for (ReadingLines.Line line : lines) {
            make(line);
        }
        List<Object> flow = room.round.flow;
        boolean first = flow.stream().noneMatch(ReadingLines.Line.class::isInstance);
        for (int k = 0; k < spaces && !first && !lines.isEmpty(); k++) {
            flow.add(ReadingPages.SPACE);
        }
        flow.addAll(lines);
    }

    private static ReadingLines.Line lineOf(String text) {
        ReadingLines.Line out = new ReadingLines.Line();
        out.signs.addAll(ReadingText.signs(text));
        return out;
    }

    private void directive(String text) {
        room.follow(text);
        List<ReadingLines.Line> lines = new ArrayList<>();
        if (text.equals("@page")) {
            room.round.flow.add(ReadingPages.CUT);
        } else if (text.equals("@toc")) {
            for (Reading.Heading heading : room.before.headings) {
                lines.add(lineOf(entryOf(heading)));
            }
        } else if (text.equals("@index")) {
            for (String entry : indexOf(room.before)) {
                List<List<ReadingText.Sign>> words = ReadingText.words(ReadingText.signs(entry));
                lines.addAll(filler.print(filler.fill(words, false, filler.roomLess(0), filler.roomLess(2)), List.of(), 2, 0));
            }
        }
        makeAll(lines, room.it("gap"));
    }

    private String entryOf(Reading.Heading heading) {
        String label = room.before.labelOf(heading.page);
        String title = "    ".substring(6 - 2 * heading.level) + heading.title;
        String cut = title.substring(0, Math.min(title.length(), Math.max(0, room.it("wide") - 3 - label.length())));
        int dots = room.it("wide") - cut.length() - 2 - label.length();
        return cut + " " + ".".repeat(Math.max(1, dots)) + " " + label;
    }

    private static int compareKeys(String one, String two) {
        int alike = ReadingText.small(one).compareTo(ReadingText.small(two));
        return alike != 0 ? alike : one.compareTo(two);
    }

    private static List<String> indexOf(Reading.Round round) {
        Map<String, TreeSet<Integer>> pages = new TreeMap<>(ReadingBlocks::compareKeys);
        for (ReadingText.Mark mark : round.keys) {
            pages.computeIfAbsent(mark.key, key -> new TreeSet<>()).add(round.pageOf.get(mark));
        }
        List<String> out = new ArrayList<>();
        for (Map.Entry<String, TreeSet<Integer>> entry : pages.entrySet()) {
            out.add(entry.getKey() + ", " + String.join(", ", stretches(round, entry.getValue())));
        }
        return out;
    }

    private static List<String> stretches(Reading.Round round, TreeSet<Integer> pages) {
        List<String> out = new ArrayList<>();
        int next = -1;
        for (int page : pages) {
            if (page < next) {
                continue;
            }
            int last = page;
            while (pages.contains(last + 1)) {
                last++;
            }
            next = last - page >= 2 ? last + 1 : page + 1;
            out.add(round.labelOf(page) + (next > page + 1 ? "-" + round.labelOf(last) : ""));
        }
        return out;
    }

    private void heading(String text) {
        if (room.round.headings.size() == 60) {
            throw new ReadingText.Fault(9);
        }
        Reading.Heading heading = new Reading.Heading();
        heading.level = text.indexOf(' ');
        levels[heading.level]++;
        Arrays.fill(levels, heading.level + 1, 4, 0);
        room.latest = "" + levels[1];
        for (int k = 2; k <= heading.level; k++) {
            room.latest += "." + levels[k];
        }
        ReadingText worked = new ReadingText(room, ReadingText.BUT_NOTES);
        worked.own.addAll(ReadingText.signs(room.latest + " "));
        worked.work(text.substring(heading.level + 1));
        List<List<ReadingText.Sign>> words = ReadingText.words(worked.own);
        heading.title = ReadingText.joined(words);
        int hang = room.latest.length() + 1;
        List<ReadingLines.Line> lines =
            filler.print(filler.fill(words, false, filler.roomLess(0), filler.roomLess(hang)), List.of(), hang, 0);
        for (ReadingLines.Line line : lines) {
            line.bold = true;
            line.mayEnd = false;
        }
        makeAll(lines, Math.max(1, room.it("gap")));
        heading.first = lines.get(0);
        room.round.headings.add(heading);
        carry(worked, lines);
    }

    /** The line that has a sign has what it carries. */
    private void carry(ReadingText worked, List<ReadingLines.Line> lines) {
        for (ReadingText.Mark mark : worked.marks) {
            for (ReadingLines.Line line : lines) {
                boolean here = line.signs.stream().anyMatch(sign -> sign == mark.carrier);
                if (here && mark.name.equals("note")) {
                    line.notes.add(mark);
                } else if (here) {
                    room.round.lineOf.put(mark, line);
                }
            }
        }
    }

    private void raw(Block block) {
        List<ReadingLines.Line> lines = new ArrayList<>();
        for (String text : block.lines) {
            lines.add(lineOf(text.substring(1, Math.min(text.length(), 1 + room.it("wide")))));
        }
        makeAll(lines, room.it("gap"));
    }

    private String markerOf(String text, boolean behindItem) {
        int depth = text.length() - text.stripLeading().length() >> 1;
        Arrays.fill(counts, behindItem ? depth + 1 : 0, 3, 0);
        if (text.charAt(2 * depth) == '-') {
            return "  ".repeat(depth) + "-*+".charAt(depth) + " ";
        }
        counts[depth]++;
        room.latest = ReadingText.inSystem(counts[depth], depth == 0 ? 1 : depth == 1 ? 4 : 2);
        return "  ".repeat(depth) + room.latest + (depth == 1 ? ") " : ". ");
    }

    private void filled(Block block) {
        boolean item = block.kind == '-';
        String text = String.join(" ", block.lines);
        String ahead = item ? markerOf(text, block.behindItem) : " ".repeat(room.it("indent"));
        int skip = item ? text.length() - text.stripLeading().length() + 2 : 0;
        ReadingText worked = new ReadingText(room, ReadingText.ALL_MARKS);
        worked.work(text.substring(skip));
        if (!worked.marks.isEmpty() && !worked.hasSolidSign()) {
            throw new ReadingText.Fault(6);
        }
        List<List<ReadingText.Sign>> words = ReadingText.words(worked.own);
        List<ReadingLines.Line> lines = new ArrayList<>();
        if (!words.isEmpty()) {
            lines = linesOf(words, ReadingText.signs(ahead), item ? ahead.length() : 0);
        } else if (item) {
            lines.add(lineOf(ahead.substring(0, ahead.length() - 1)));
        }
        for (int k = 0; k < lines.size() - 1; k++) {
            lines.get(k).mayEnd = k + 1 >= room.it("keep") && lines.size() - k - 1 >= room.it("keep");
        }
        makeAll(lines, block.behindItem ? 0 : room.it("gap"));
        carry(worked, lines);
        for (ReadingText.Mark mark : worked.marks) {
            if (mark.name.equals("note")) {
                note(mark);
            }
        }
    }

    private List<ReadingLines.Line> linesOf(List<List<ReadingText.Sign>> words, List<ReadingText.Sign> ahead, int hang) {
        boolean hyphens = room.it("hyph") == 1;
        int first = filler.roomLess(ahead.size());
        List<ReadingLines.Filled> best =
            room.it("fill") == 1 ? filler.fillBest(words, hyphens, first, filler.roomLess(hang)) : null;
        if (best == null) {
            best = filler.fill(words, hyphens, first, filler.roomLess(hang));
        }
        return filler.print(best, ahead, hang, room.it("justify"));
    }

    private void note(ReadingText.Mark mark) {
        String ahead = mark.number + ". ";
        int less = filler.roomLess(ahead.length());
        List<List<ReadingText.Sign>> words = ReadingText.words(mark.row);
        List<ReadingLines.Filled> filled = filler.fill(words, room.it("hyph") == 1, less, less);
        List<ReadingLines.Line> lines = filler.print(filled, ReadingText.signs(ahead), ahead.length(), 0);
        if (words.isEmpty()) {
            lines.add(lineOf(mark.number + "."));
        }
        for (ReadingLines.Line line : lines) {
            make(line);
        }
        room.round.noteLines.put(mark, lines);
    }
}
