import java.util.ArrayList;
import java.util.List;

/** Tables of part 5 read word by word: many of them, held against the room. */
public final class TablesTrialTest {
    private static final LinesTrialTest.Points DASHES =
        new LinesTrialTest.Points(new ArrayList<>(), new ArrayList<>(), 2, 2, false);
    private static int seed = 3;

    public static void main(String[] args) {
        for (int round = 0; round < 1500; round++) {
            trial();
        }
        Desk.close();
    }

    private static int random(int below) {
        seed = seed * 1103515245 + 12345;
        return (seed >>> 10) % below;
    }

    private static String cell() {
        StringBuilder out = new StringBuilder();
        for (int i = random(4); i > 0; i--) {
            out.append(random(3) == 0 ? "  " : " ").append(Desk.times(random(4) == 0 ? "b-" : "" + (char) ('a' + random(4)), 1 + random(7)));
            out.append(random(8) == 0 ? "\\ " : "");
        }
        return out.toString();
    }

    /** The words of a cell with one blank between; a hard blank stands as a ~. */
    private static String worked(String cell) {
        return cell.replace("\\ ", "~").trim().replaceAll(" +", " ");
    }

    private static void trial() {
        int wide = 12 + random(40);
        StringBuilder text = new StringBuilder("@set high 60\n@set wide " + wide + "\n@set gap 0\n");
        String aligns = "";
        if (random(2) == 0) {
            for (int i = 1 + random(5); i > 0; i--) {
                aligns += "<^>".charAt(random(3));
            }
            text.append('|').append(aligns.replaceAll("(.)", " $1|")).append('\n');
        }
        List<List<String>> rows = new ArrayList<>();
        for (int i = 1 + random(4); i > 0; i--) {
            List<String> row = new ArrayList<>();
            text.append('|');
            for (int k = random(6); k > 0; k--) {
                String cell = cell();
                row.add(worked(cell));
                text.append(cell).append('|');
            }
            rows.add(row);
            text.append(random(2) == 0 ? "  \n" : "\n");
        }
        Desk.same(text.toString(), lines(rows, aligns, wide).replace('~', ' '), Desk.setNew(text.toString()).replace("=", ""));
    }

    private static String lines(List<List<String>> rows, String aligns, int wide) {
        int columns = 0;
        for (List<String> row : rows) {
            columns = Math.max(columns, row.size());
        }
        if (columns == 0) {
            return "";
        }
        int[] widths = widths(rows, columns, wide);
        StringBuilder out = new StringBuilder();
        for (int r = 0; r < rows.size(); r++) {
            List<List<String>> parts = new ArrayList<>();
            int many = 1;
            for (int c = 0; c < columns; c++) {
                String cell = c < rows.get(r).size() ? rows.get(r).get(c) : "";
                List<String> filled = LinesTrialTest.fill(cell, DASHES, widths[c], widths[c]);
                parts.add(filled);
                many = Math.max(many, filled.size());
            }
            for (int i = 0; i < many; i++) {
                StringBuilder line = new StringBuilder();
                for (int c = 0; c < columns; c++) {
                    String part = i < parts.get(c).size() ? parts.get(c).get(i) : "";
                    int left = widths[c] - part.length();
                    char align = c < aligns.length() ? aligns.charAt(c) : '<';
                    int ahead = align == '>' ? left : align == '^' ? left / 2 : 0;
                    line.append(c > 0 ? " | " : "").append(Desk.times(" ", ahead)).append(part).append(Desk.times(" ", left - ahead));
                }
                out.append(line.toString().replaceAll("[ ~]+$", "")).append('/');
            }
            if (r == 0) {
                for (int c = 0; c < columns; c++) {
                    out.append(c > 0 ? "-+-" : "").append(Desk.times("-", widths[c]));
                }
                out.append('/');
            }
        }
        return out.toString();
    }

    private static int[] widths(List<List<String>> rows, int columns, int wide) {
        int[] widths = new int[columns];
        int all = 3 * (columns - 1);
        for (int c = 0; c < columns; c++) {
            widths[c] = 1;
            for (List<String> row : rows) {
                widths[c] = Math.max(widths[c], c < row.size() ? row.get(c).length() : 0);
            }
            all += widths[c];
        }
        while (all > wide) {
            int widest = 0;
            for (int c = 0; c < columns; c++) {
                widest = widths[c] > widths[widest] ? c : widest;
            }
            if (widths[widest] == 1) {
                return widths;
            }
            widths[widest]--;
            all--;
        }
        return widths;
    }
}
