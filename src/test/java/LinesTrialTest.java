import java.util.ArrayList;
import java.util.List;

/** Parts 3 and 4 read word by word: points, way 0 and justifying of many texts, held against the room. */
public final class LinesTrialTest {
    private static final String[] SIGNS = {"a", "b", "c", "A", "B", "-", "9", "\\ ", "{}"};
    private static int seed = 5;

    public static void main(String[] args) {
        for (int round = 0; round < 1500; round++) {
            trial(round);
        }
        Desk.close();
    }

    private static int random(int below) {
        seed = seed * 1103515245 + 12345;
        return (seed >>> 10) % below;
    }

    private static String letters(int least, int most) {
        StringBuilder out = new StringBuilder();
        for (int i = least + random(most - least + 1); i > 0; i--) {
            out.append((char) ('a' + random(3)));
        }
        return out.toString();
    }

    private static String pattern() {
        StringBuilder out = new StringBuilder(random(4) == 0 ? "." : "");
        for (char letter : letters(1, 3).toCharArray()) {
            out.append(random(2) == 0 ? "" : "" + random(4)).append(letter);
        }
        return out.append(random(2) == 0 ? "" : "" + random(4)).append(random(5) == 0 ? "." : "").toString();
    }

    private static String exception() {
        StringBuilder out = new StringBuilder();
        for (char letter : letters(2, 4).toCharArray()) {
            out.append(out.length() > 0 && random(2) == 0 ? "-" : "").append(letter);
        }
        return out.toString();
    }

    private static String word() {
        if (random(25) == 0) {
            return letters(38, 43);
        }
        StringBuilder out = new StringBuilder();
        int many = 1 + random(random(6) == 0 ? 30 : 8);
        for (int i = 0; i < many; i++) {
            out.append(random(4) == 0 ? SIGNS[random(SIGNS.length)] : letters(1, 3));
        }
        return out.toString();
    }

    private static void trial(int round) {
        int wide = 12 + random(12);
        int indent = random(9);
        int justify = random(4);
        int hyph = random(4) == 0 ? 0 : 1;
        int left = 1 + random(3);
        int right = 1 + random(3);
        List<String> patterns = new ArrayList<>();
        List<String> exceptions = new ArrayList<>();
        for (int i = random(6); i > 0; i--) {
            patterns.add(pattern());
        }
        for (int i = random(3); i > 0; i--) {
            exceptions.add(exception());
        }
        StringBuilder rules = new StringBuilder("@set high 60\n@set wide " + wide + "\n@set indent " + indent + "\n@set justify " + justify
            + "\n@set hyph " + hyph + "\n@set left " + left + "\n@set right " + right + "\n");
        rules.append(patterns.isEmpty() ? "" : "@pat " + String.join(" ", patterns) + "\n");
        rules.append(exceptions.isEmpty() ? "" : "@word " + String.join(" ", exceptions) + "\n");
        StringBuilder text = new StringBuilder("x");
        for (int i = random(12); i > 0; i--) {
            text.append(random(5) == 0 ? "  " : " ").append(word());
        }
        Points points = new Points(patterns, exceptions, left, right, hyph == 1);
        List<String> lines = fill(text.toString(), points, Math.max(4, wide - indent), wide);
        StringBuilder due = new StringBuilder();
        for (int i = 0; i < lines.size(); i++) {
            int room = i == 0 ? Math.max(4, wide - indent) : wide;
            due.append(Desk.times(" ", i == 0 ? indent : 0)).append(justified(lines.get(i), justify, room, i, i + 1 == lines.size()))
                .append('/');
        }
        Desk.same(rules + text.toString(), due.toString().replace('~', ' ') + "=", Desk.setNew(rules + text.toString()));
    }

    /** A hard blank stands as a ~ here, so that it parts no words. */
    static List<String> fill(String text, Points points, int first, int other) {
        List<String> lines = new ArrayList<>();
        String line = "";
        for (String word : text.replace("\\ ", "~").replace("{}", "").trim().split(" +")) {
            int at = 0;
            while (at < word.length()) {
                int room = lines.isEmpty() ? first : other;
                String ahead = line.isEmpty() ? "" : line + " ";
                String part = points.latest(word, at, room - ahead.length());
                if (ahead.length() + word.length() - at <= room) {
                    line = ahead + word.substring(at);
                    at = word.length();
                } else {
                    if (part != null) {
                        at += points.taken;
                        line = ahead + part;
                    } else if (line.isEmpty()) {
                        line = word.substring(at, at + room);
                        at += room;
                    }
                    lines.add(line);
                    line = "";
                }
            }
        }
        if (!line.isEmpty()) {
            lines.add(line);
        }
        return lines;
    }

    private static String justified(String line, int justify, int room, int number, boolean last) {
        int free = room - line.length();
        int blanks = line.length() - line.replace(" ", "").length();
        if (justify == 1 || justify == 2) {
            return Desk.times(" ", justify == 1 ? free : free / 2) + line;
        }
        if (justify == 0 || last || blanks == 0) {
            return line;
        }
        StringBuilder out = new StringBuilder();
        int blank = 0;
        for (char sign : line.toCharArray()) {
            out.append(sign);
            if (sign == ' ') {
                int more = free % blanks;
                boolean one = number % 2 == 0 ? blank < more : blanks - 1 - blank < more;
                out.append(Desk.times(" ", free / blanks + (one ? 1 : 0)));
                blank++;
            }
        }
        return out.toString();
    }

    /** The points of words, by the document's words, place by place. */
    static final class Points {
        private final List<String> patterns;
        private final List<String> exceptions;
        private final int left;
        private final int right;
        private final boolean hyph;
        private int taken;

        Points(List<String> patterns, List<String> exceptions, int left, int right, boolean hyph) {
            this.patterns = patterns;
            this.exceptions = exceptions;
            this.left = left;
            this.right = right;
            this.hyph = hyph;
        }

        /** The longest part of a word from a place on, up to a point, that fits; null without one. */
        String latest(String word, int at, int room) {
            for (int stop = word.length() - 1; stop > at; stop--) {
                boolean dash = word.charAt(stop - 1) == '-' && stop - 1 > 0;
                String part = word.substring(at, stop) + (dash ? "" : "-");
                if ((dash || hyph && isHyphenPoint(word, stop)) && part.length() <= room) {
                    taken = stop - at;
                    return part;
                }
            }
            return null;
        }

        private boolean isHyphenPoint(String word, int place) {
            int from = place;
            int to = place;
            while (from > 0 && Character.isLetter(word.charAt(from - 1))) {
                from--;
            }
            while (to < word.length() && Character.isLetter(word.charAt(to))) {
                to++;
            }
            String row = word.substring(from, to).toLowerCase();
            int k = place - from;
            if (k == 0 || place == to || row.length() > 40) {
                return false;
            }
            for (int i = exceptions.size() - 1; i >= 0; i--) {
                if (exceptions.get(i).replace("-", "").equals(row)) {
                    return dashed(exceptions.get(i))[k];
                }
            }
            return k >= left && row.length() - k >= right && digit("." + row + ".", k + 1) % 2 == 1;
        }

        private static boolean[] dashed(String exception) {
            boolean[] there = new boolean[exception.length() + 1];
            int letters = 0;
            for (char sign : exception.toCharArray()) {
                if (sign == '-') {
                    there[letters] = true;
                } else {
                    letters++;
                }
            }
            return there;
        }

        /** The greatest digit that comes to the place ahead of a sign. */
        private int digit(String row, int place) {
            int most = 0;
            for (String pattern : patterns) {
                String signs = pattern.replaceAll("[0-9]", "");
                int[] digits = new int[signs.length() + 1];
                int count = 0;
                for (char sign : pattern.toCharArray()) {
                    if (Character.isDigit(sign)) {
                        digits[count] = sign - '0';
                    } else {
                        count++;
                    }
                }
                for (int at = row.indexOf(signs); at >= 0; at = row.indexOf(signs, at + 1)) {
                    int inside = place - at;
                    most = Math.max(most, inside >= 0 && inside < digits.length ? digits[inside] : 0);
                }
            }
            return most;
        }
    }
}
