import java.util.ArrayList;
import java.util.Arrays;
import java.util.List;

/** The tables of part 5 as they are read by the model. */
final class ReadingTable {
    private final Reading room;
    private final ReadingLines filler;
    private final ReadingBlocks blocks;
    private final char[] aligns = "<<<<<<<<".toCharArray();
    private final List<List<List<List<ReadingText.Sign>>>> rows = new ArrayList<>();

    ReadingTable(Reading room, ReadingLines filler, ReadingBlocks blocks) {
        this.room = room;
        this.filler = filler;
        this.blocks = blocks;
    }

    private static List<String> cellsOf(String line) {
        List<String> out = new ArrayList<>();
        StringBuilder cell = new StringBuilder();
        int open = 0;
        for (int k = 1; k < line.length(); k++) {
            char c = line.charAt(k);
            if (c == '|' && open == 0) {
                out.add(cell.toString());
                cell.setLength(0);
                continue;
            }
            cell.append(c);
            if (c == '\\' && k + 1 < line.length()) {
                k++;
                cell.append(line.charAt(k));
            } else if (c == '{') {
                open++;
            } else if (c == '}') {
                open = Math.max(0, open - 1);
            }
        }
        if (!cell.toString().isBlank()) {
            out.add(cell.toString());
        }
        if (out.size() > 8) {
            throw new ReadingText.Fault(9);
        }
        return out;
    }

    void set(List<String> lines) {
        for (String line : lines) {
            List<String> cells = cellsOf(line);
            boolean first = line == lines.get(0);
            if (first && !cells.isEmpty() && cells.stream().allMatch(cell -> cell.matches(" *[<^>] *"))) {
                for (int c = 0; c < cells.size(); c++) {
                    aligns[c] = cells.get(c).strip().charAt(0);
                }
                continue;
            }
            List<List<List<ReadingText.Sign>>> row = new ArrayList<>();
            for (String cell : cells) {
                room.spend(15);
                ReadingText worked = new ReadingText(room, ReadingText.NO_MARKS);
                worked.work(cell);
                row.add(ReadingText.words(worked.own));
            }
            rows.add(row);
        }
        int[] widths = widths();
        List<ReadingLines.Line> out = new ArrayList<>();
        for (int r = 0; r < rows.size() && widths.length > 0; r++) {
            printRow(r, widths, out);
        }
        blocks.makeAll(out, room.it("gap"));
    }

    private List<List<ReadingText.Sign>> cell(int row, int column) {
        return column < rows.get(row).size() ? rows.get(row).get(column) : List.of();
    }

    private int[] widths() {
        int[] out = new int[rows.stream().mapToInt(List::size).max().orElse(0)];
        for (int c = 0; c < out.length; c++) {
            out[c] = 1;
            for (int r = 0; r < rows.size(); r++) {
                out[c] = Math.max(out[c], ReadingText.joined(cell(r, c)).length());
            }
        }
        while (Arrays.stream(out).sum() + 3 * (out.length - 1) > room.it("wide")) {
            int widest = 0;
            for (int c = 0; c < out.length; c++) {
                widest = out[c] > out[widest] ? c : widest;
            }
            if (out[widest] == 1) {
                break;
            }
            out[widest]--;
        }
        return out;
    }

    private void printRow(int row, int[] widths, List<ReadingLines.Line> out) {
        List<List<ReadingLines.Filled>> filled = new ArrayList<>();
        int many = 1;
        for (int c = 0; c < widths.length; c++) {
            filled.add(filler.fill(cell(row, c), false, widths[c], widths[c]));
            many = Math.max(many, filled.get(c).size());
        }
        for (int k = 0; k < many; k++) {
            ReadingLines.Line line = new ReadingLines.Line();
            for (int c = 0; c < widths.length; c++) {
                line.signs.addAll(ReadingText.signs(c > 0 ? " | " : ""));
                printPart(k < filled.get(c).size() ? filled.get(c).get(k) : null, widths[c], aligns[c], line.signs);
            }
            while (!line.signs.isEmpty() && line.signs.get(line.signs.size() - 1).sign == ' ') {
                line.signs.remove(line.signs.size() - 1);
            }
            line.mayEnd = row > 0 && k + 1 == many;
            out.add(line);
        }
        if (row == 0) {
            List<String> dashes = new ArrayList<>();
            for (int width : widths) {
                dashes.add("-".repeat(width));
            }
            ReadingLines.Line line = new ReadingLines.Line();
            line.signs.addAll(ReadingText.signs(String.join("-+-", dashes)));
            line.mayEnd = false;
            out.add(line);
        }
    }

    private static void printPart(ReadingLines.Filled filled, int width, char align, List<ReadingText.Sign> out) {
        List<ReadingText.Sign> part = new ArrayList<>();
        for (int k = 0; filled != null && k < filled.parts.size(); k++) {
            ReadingLines.putBlanks(part, k > 0 ? 1 : 0);
            part.addAll(filled.parts.get(k));
        }
        int left = width - part.size();
        int ahead = align == '>' ? left : align == '^' ? left / 2 : 0;
        ReadingLines.putBlanks(out, ahead);
        out.addAll(part);
        ReadingLines.putBlanks(out, left - ahead);
    }
}
