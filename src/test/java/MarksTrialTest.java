import java.util.ArrayList;
import java.util.List;
import java.util.TreeMap;

/** Contents and index of part 5 read word by word: many texts, held against the room. */
public final class MarksTrialTest {
    private static final LinesTrialTest.Points DASHES =
        new LinesTrialTest.Points(new ArrayList<>(), new ArrayList<>(), 2, 2, false);
    private static final String[] SIGNS = {"a", "A", "b", "B", "c", "-", "1", "_", "[", " ", "  ", "~"};
    private static int seed = 31;

    public static void main(String[] args) {
        for (int round = 0; round < 1200; round++) {
            trial();
        }
        Desk.close();
    }

    private static int random(int below) {
        seed = seed * 1103515245 + 12345;
        return (seed >>> 10) % below;
    }

    /** Signs of which a ~ stands for a hard blank. */
    private static String signs(int most) {
        StringBuilder out = new StringBuilder();
        for (int i = 1 + random(most); i > 0; i--) {
            out.append(SIGNS[random(SIGNS.length)]);
        }
        return out.toString();
    }

    private static String source(String signs) {
        return signs.replace("_", "\\_").replace("~", "\\ ");
    }

    /** Its words with one blank between, hard blanks being plain ones then. */
    private static String packed(String signs) {
        return signs.replaceAll(" +", " ").replaceAll("^ | $", "").replace('~', ' ');
    }

    private static int compare(String one, String two) {
        for (int i = 0; i < one.length() && i < two.length(); i++) {
            int by = Character.toLowerCase(one.charAt(i)) - Character.toLowerCase(two.charAt(i));
            if (by != 0) {
                return by;
            }
        }
        return one.length() != two.length() ? one.length() - two.length() : one.compareTo(two);
    }

    private static String label(int number, int system) {
        if (system == 4) {
            return number <= 26 ? "" + (char) ('a' + number - 1) : label((number - 1) / 26, 4) + (char) ('a' + (number - 1) % 26);
        }
        return Integer.toString(number, system == 5 ? 36 : 10);
    }

    private static void trial() {
        int wide = 12 + random(30);
        int first = 1 + random(60);
        int system = random(3) == 0 ? 4 : random(2) == 0 ? 5 : 1;
        TreeMap<String, List<Integer>> keys = new TreeMap<>(MarksTrialTest::compare);
        StringBuilder contents = new StringBuilder();
        StringBuilder text = new StringBuilder("@set high 60\n@set gap 0\n@set first " + first + "\n@set system " + system + "\n@set wide " + wide + "\n");
        int[] numbers = new int[4];
        int pages = 1 + random(7);
        for (int page = 0; page < pages; page++) {
            if (random(2) == 0) {
                int level = 1 + random(3);
                numbers[level]++;
                for (int deeper = level + 1; deeper <= 3; deeper++) {
                    numbers[deeper] = 0;
                }
                String number = level == 1 ? "" + numbers[1] : level == 2 ? numbers[1] + "." + numbers[2] : numbers[1] + "." + numbers[2] + "." + numbers[3];
                String title = signs(12);
                text.append("===", 0, level).append(' ').append(source(title)).append('\n');
                contents.append(line(level, packed(number + " " + title), label(first + page, system), wide));
            }
            text.append('x');
            for (int i = random(4); i > 0; i--) {
                String key = signs(3 + random(2) * 14);
                if (!packed(key).isEmpty()) {
                    text.append("\\index{").append(source(key)).append('}');
                    List<Integer> there = keys.computeIfAbsent(packed(key), none -> new ArrayList<>());
                    if (!there.contains(page)) {
                        there.add(page);
                    }
                }
            }
            text.append("\n@page\n");
        }
        StringBuilder index = new StringBuilder();
        for (String key : keys.keySet()) {
            index.append(entry(key, keys.get(key), first, system, wide));
        }
        Desk desk = new Desk();
        Desk.same(text.toString(), 0, desk.set(text + "@toc\n@index"));
        boolean none = contents.length() + index.length() == 0;
        Desk.same(text.toString(), contents.append(index).toString(), none ? "" : desk.page(pages));
        Desk.same("keys of " + text, keys.size(), desk.room.count(6));
        Desk.same("pages of " + text, none ? pages : pages + 1, desk.room.pages());
    }

    private static String line(int level, String title, String label, int wide) {
        String row = Desk.times("  ", level - 1) + title;
        row = row.substring(0, Math.min(row.length(), Math.max(0, wide - 3 - label.length())));
        return row + " " + Desk.times(".", Math.max(1, wide - row.length() - 2 - label.length())) + " " + label + "/";
    }

    private static String entry(String key, List<Integer> there, int first, int system, int wide) {
        StringBuilder row = new StringBuilder(key);
        for (int i = 0; i < there.size(); i++) {
            int last = i;
            while (last + 1 < there.size() && there.get(last + 1) == there.get(last) + 1) {
                last++;
            }
            row.append(", ").append(label(first + there.get(i), system));
            if (last - i >= 2) {
                row.append('-').append(label(first + there.get(last), system));
                i = last;
            }
        }
        StringBuilder out = new StringBuilder();
        for (String part : LinesTrialTest.fill(row.toString(), DASHES, wide, wide - 2)) {
            out.append(out.length() == 0 ? "" : "  ").append(part).append('/');
        }
        return out.toString();
    }
}
