import java.util.ArrayList;
import java.util.List;

/** Part 4 of the document as it is read by the model: points of words, the two ways of filling, justify. */
final class ReadingLines {
    /** A line that is made. */
    static final class Line {
        final List<ReadingText.Sign> signs = new ArrayList<>();
        final List<ReadingText.Mark> notes = new ArrayList<>();
        int origin;
        boolean put;
        boolean mayEnd = true;
        boolean bold;

        int styleOf(int k) {
            ReadingText.Sign sign = signs.get(k);
            return bold && !sign.partsWords() ? sign.style | 1 : sign.style;
        }
    }

    /** Words and parts of words that come to one line. */
    static final class Filled {
        final List<List<ReadingText.Sign>> parts = new ArrayList<>();
        boolean put;

        int used() {
            int used = Math.max(0, parts.size() - 1) + (put ? 1 : 0);
            for (List<ReadingText.Sign> part : parts) {
                used += part.size();
            }
            return used;
        }
    }

    private static final int NO_POINT = 0;
    private static final int NOTHING_PUT = 1;
    private static final int HYPHEN = 2;

    private final Reading room;

    ReadingLines(Reading room) {
        this.room = room;
    }

    int roomLess(int blanks) {
        return Math.max(4, room.it("wide") - blanks);
    }

    /** For each place behind so many letters: whether there is a hyphen point. */
    boolean[] hyphenPoints(String letters) {
        boolean[] out = new boolean[letters.length() + 1];
        if (letters.length() > 40) {
            return out;
        }
        String word = ReadingText.small(letters);
        for (int k = room.exceptions.size() - 1; k >= 0; k--) {
            if (room.exceptions.get(k).replace("-", "").equals(word)) {
                int place = 0;
                for (String part : room.exceptions.get(k).split("-")) {
                    place += part.length();
                    out[place] = place < word.length();
                }
                return out;
            }
        }
        int[] digits = digitsOf("." + word + ".");
        for (int k = room.it("left"); k <= word.length() - room.it("right"); k++) {
            out[k] = digits[k + 1] % 2 == 1;
        }
        return out;
    }

    private int[] digitsOf(String dotted) {
        int[] out = new int[dotted.length() + 1];
        for (String pattern : room.patterns) {
            String signs = pattern.replaceAll("[0-9]", "");
            for (int at = dotted.indexOf(signs); at >= 0; at = dotted.indexOf(signs, at + 1)) {
                int place = at;
                for (char c : pattern.toCharArray()) {
                    if (c >= '0' && c <= '9') {
                        out[place] = Math.max(out[place], c - '0');
                    } else {
                        place++;
                    }
                }
            }
        }
        return out;
    }

    private int[] pointsOf(List<ReadingText.Sign> word, boolean hyphens) {
        String text = ReadingText.plain(word);
        int[] out = new int[text.length() + 1];
        int start = 0;
        for (int k = 0; k <= text.length(); k++) {
            if (k < text.length() && ReadingText.isLetter(text.charAt(k))) {
                continue;
            }
            boolean[] points = hyphenPoints(text.substring(start, k));
            for (int i = 0; i < points.length && hyphens; i++) {
                out[start + i] = points[i] ? HYPHEN : NO_POINT;
            }
            start = k + 1;
        }
        for (int k = 1; k < text.length() - 1; k++) {
            out[k + 1] = text.charAt(k) == '-' ? NOTHING_PUT : out[k + 1];
        }
        return out;
    }

    List<Filled> fill(List<List<ReadingText.Sign>> words, boolean hyphens, int firstRoom, int otherRoom) {
        List<Filled> out = new ArrayList<>();
        Filled line = null;
        for (List<ReadingText.Sign> word : words) {
            int[] points = pointsOf(word, hyphens);
            int at = 0;
            while (at < word.size()) {
                if (line == null) {
                    line = new Filled();
                    out.add(line);
                }
                int left = (out.size() == 1 ? firstRoom : otherRoom) - (line.parts.isEmpty() ? 0 : line.used() + 1);
                int end = endOf(points, at, left, line.parts.isEmpty());
                if (end > at) {
                    line.parts.add(word.subList(at, end));
                    // So many signs as fit leave no room for a -, even where a hyphen point is.
                    line.put = points[end] == HYPHEN && end - at < left;
                    at = end;
                }
                line = at == word.size() ? line : null;
            }
        }
        return out;
    }

    /** Up to where what comes next comes to the line; 0 if it doesn't. */
    private static int endOf(int[] points, int at, int left, boolean nothingYet) {
        int all = points.length - 1;
        if (all - at <= left) {
            return all;
        }
        for (int end = all - 1; end > at; end--) {
            boolean fits = points[end] == NOTHING_PUT && end - at <= left || points[end] == HYPHEN && end - at + 1 <= left;
            if (fits) {
                return end;
            }
        }
        return nothingYet ? at + left : 0;
    }

    /** A place where a line may begin or end: a word, so many signs of it ahead, and the kind of the point. */
    private List<int[]> places(List<List<ReadingText.Sign>> words, boolean hyphens) {
        List<int[]> out = new ArrayList<>();
        for (int w = 0; w < words.size(); w++) {
            out.add(new int[] {w, 0, NO_POINT});
            int[] points = pointsOf(words.get(w), hyphens);
            for (int k = 1; k < words.get(w).size(); k++) {
                if (points[k] != NO_POINT) {
                    out.add(new int[] {w, k, points[k]});
                }
            }
        }
        out.add(new int[] {words.size(), 0, NO_POINT});
        return out;
    }

    private static Filled between(List<List<ReadingText.Sign>> words, int[] begin, int[] end) {
        Filled out = new Filled();
        for (int w = begin[0]; w < words.size() && w <= end[0]; w++) {
            int from = w == begin[0] ? begin[1] : 0;
            int to = w == end[0] ? end[1] : words.get(w).size();
            if (to > from) {
                out.parts.add(words.get(w).subList(from, to));
            }
        }
        out.put = end[2] == HYPHEN;
        return out;
    }

    /** Way 1, or null if there is none in which all lines fit. */
    List<Filled> fillBest(List<List<ReadingText.Sign>> words, boolean hyphens, int firstRoom, int otherRoom) {
        List<int[]> places = places(words, hyphens);
        int last = places.size() - 1;
        Long[] costs = new Long[last + 1];
        int[] ends = new int[last + 1];
        costs[last] = 0L;
        for (int begin = last - 1; begin >= 0; begin--) {
            for (int end = begin + 1; end <= last; end++) {
                Filled line = between(words, places.get(begin), places.get(end));
                long left = (begin == 0 ? firstRoom : otherRoom) - line.used();
                if (left < -1) {
                    break;
                }
                if (left < 0 || costs[end] == null) {
                    continue;
                }
                long cost = end == last ? 0 : left * left + (line.put ? 50 : 0) + costs[end];
                if (costs[begin] == null || cost <= costs[begin]) {
                    costs[begin] = cost;
                    ends[begin] = end;
                }
            }
        }
        if (costs[0] == null) {
            return null;
        }
        List<Filled> out = new ArrayList<>();
        for (int begin = 0; begin < last; begin = ends[begin]) {
            out.add(between(words, places.get(begin), places.get(ends[begin])));
        }
        return out;
    }

    static void putBlanks(List<ReadingText.Sign> row, int many) {
        for (int k = 0; k < many; k++) {
            row.add(new ReadingText.Sign(' ', 0, false));
        }
    }

    List<Line> print(List<Filled> filled, List<ReadingText.Sign> first, int hang, int justify) {
        List<Line> out = new ArrayList<>();
        for (Filled line : filled) {
            int number = out.size();
            Line made = new Line();
            if (number == 0) {
                made.signs.addAll(first);
            } else {
                putBlanks(made.signs, hang);
            }
            int left = roomLess(number == 0 ? first.size() : hang) - line.used();
            putBlanks(made.signs, justify == 1 ? left : justify == 2 ? left / 2 : 0);
            boolean spread = justify == 3 && number + 1 < filled.size();
            putParts(line, made.signs, spread ? left : 0, number % 2 == 0);
            if (line.put) {
                made.signs.add(new ReadingText.Sign('-', made.signs.get(made.signs.size() - 1).style, false));
            }
            made.put = line.put;
            out.add(made);
        }
        return out;
    }

    private static void putParts(Filled line, List<ReadingText.Sign> out, int left, boolean firstOnes) {
        int gaps = line.parts.size() - 1;
        for (int k = 0; k <= gaps; k++) {
            if (k > 0) {
                boolean oneMore = firstOnes ? k <= left % gaps : k > gaps - left % gaps;
                putBlanks(out, 1 + left / gaps + (oneMore ? 1 : 0));
            }
            out.addAll(line.parts.get(k));
        }
    }
}
