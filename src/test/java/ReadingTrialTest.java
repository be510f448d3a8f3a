import java.util.ArrayList;
import java.util.List;

/** Rooms by chance: each call's answer is held against the whole document as Reading reads it. */
final class ReadingTrialTest {
    private static final int ROOMS = 200;
    private static final int STEPS = 40;
    private static final int THROWN = -99;

    private final TypeRoom room = new TypeRoom();
    private final Reading reading = new Reading();
    private final Manuscripts chance;
    private final String name;

    private ReadingTrialTest(long seed) {
        chance = new Manuscripts(seed);
        name = "room " + seed + ": ";
    }

    public static void main(String[] args) {
        long first = args.length > 0 ? Long.parseLong(args[0]) : 0;
        long rooms = args.length > 1 ? Long.parseLong(args[1]) : ROOMS;
        for (long seed = first; seed < first + rooms; seed++) {
            ReadingTrialTest trial = new ReadingTrialTest(seed);
            for (int step = 0; step < STEPS; step++) {
                trial.step();
            }
        }
        Desk.close();
    }

    private void same(String call, Object due, Object got) {
        Desk.same(name + call, due, got);
    }

    private void feed(String text) {
        for (int at = 0; at < text.length(); at += 24) {
            long[] numbers = new long[3];
            for (int k = 0; k < 24; k++) {
                // What is no sign is left out.
                int sign = at + k < text.length() ? text.charAt(at + k) : chance.chance(0.5) ? 0 : 127 + chance.upTo(128);
                numbers[k / 8] = numbers[k / 8] << 8 | sign;
            }
            same("feed", reading.feed(numbers), room.feed(numbers[0], numbers[1], numbers[2]));
        }
    }

    private void step() {
        switch (chance.upTo(11)) {
            case 0:
            case 1:
            case 2:
                feed(chance.manuscript());
                same("write()", reading.write(), room.write());
                break;
            case 3:
                feed(chance.chance(0.1) ? chance.manuscript() : chance.block());
                same("add()", reading.add(), room.add());
                break;
            case 4:
                replace();
                break;
            case 5:
                same("back()", reading.back(), room.back());
                break;
            case 6:
                find();
                break;
            case 7:
                feed(chance.text(0, 0, 0, 8) + chance.pick("", "", "\nx"));
                same("tell()", reading.tell(), room.tell());
                break;
            case 8:
                feed(chance.pick("hyphenation", "Galley", "INK", "a", "to", "x1", "") + chance.pick("", "", "abcd".repeat(9)));
                same("hyphens()", reading.hyphens(), room.hyphens());
                break;
            case 9:
                List<String> keys = new ArrayList<>(reading.labelKeys());
                feed(keys.isEmpty() ? chance.key() : keys.get(chance.upTo(keys.size() - 1)));
                same("labelled()", reading.labelled(), room.labelled());
                break;
            default:
                hold();
        }
        if (chance.chance(0.5)) {
            same("set() of " + reading.manuscript, reading.set(), room.set());
            look();
        }
        for (int what = -1; what <= 20; what++) {
            same("count(" + what + ")", reading.count(what), room.count(what));
        }
        for (int k = -1; k <= reading.answer.length(); k++) {
            same("answer(" + k + ")", reading.answer(k), room.answer(k));
        }
    }

    private String piece() {
        int size = reading.manuscript.length();
        int from = chance.upTo(Math.max(0, size - 1));
        return reading.manuscript.substring(Math.min(from, size), Math.min(size, from + 1 + chance.upTo(6)));
    }

    private void replace() {
        String piece = piece();
        String most = "x".repeat(60 + chance.upTo(1));
        String old = chance.pick(piece, piece.toUpperCase(), piece.toLowerCase(), "ink", "a", "THE", most);
        String fresh = chance.pick("lead", "Lead", "zinc ", "", "q-q\n", "1a", chance.text(2, 0, 0, 9));
        feed(old + chance.pick("\n", "\n", "\n", "") + fresh);
        int ways = chance.upTo(9) - 1;
        int due = THROWN;
        int got = THROWN;
        try {
            due = reading.replace(ways);
        } catch (IllegalArgumentException wrongWays) {
            same("ways", true, ways < 0 || ways > 7);
        }
        try {
            got = room.replace(ways);
        } catch (IllegalArgumentException wrongWays) {
            same("ways", true, ways < 0 || ways > 7);
        }
        same("replace(" + ways + ")", due, got);
        for (int k = -1; k <= reading.manuscript.length(); k++) {
            same("letter(" + k + ")", reading.letter(k), room.letter(k));
        }
    }

    private void find() {
        String wanted = chance.pick(piece(), piece(), "ink", "");
        feed(wanted);
        int from = chance.upTo(reading.manuscript.length() + 3) - 1;
        same("find(" + from + ") of " + wanted, reading.find(from), room.find(from));
    }

    /** keep() and changed(), with or without what they need. */
    private void hold() {
        int due = THROWN;
        int got = THROWN;
        try {
            due = chance.chance(0.3) ? reading.keep() : THROWN + 1;
        } catch (IllegalStateException none) {
            same("no proof", 0, room.count(3));
        }
        try {
            got = due == THROWN + 1 ? due : room.keep();
        } catch (IllegalStateException none) {
            same("no proof", 0, room.count(3));
        }
        same("keep()", due, got);
        for (int what = -1; what <= 3; what++) {
            same("changed(" + what + ")", dueChange(what), gotChange(what));
        }
    }

    private int dueChange(int what) {
        try {
            return reading.changed(what);
        } catch (IllegalStateException none) {
            return THROWN;
        } catch (IllegalArgumentException wrong) {
            return THROWN - 1;
        }
    }

    private int gotChange(int what) {
        try {
            return room.changed(what);
        } catch (IllegalStateException none) {
            return THROWN;
        } catch (IllegalArgumentException wrong) {
            return THROWN - 1;
        }
    }

    /** All that the proof shows. */
    private void look() {
        int pages = reading.pages == null ? THROWN : reading.pages.size();
        int shown = THROWN;
        try {
            shown = room.pages();
        } catch (IllegalStateException none) {
            same("a proof is there", false, reading.pages != null);
        }
        same("pages()", pages, shown);
        for (int page = 0; page < Math.min(pages, shown); page++) {
            same("lines(" + page + ")", reading.pages.get(page).size(), room.lines(page));
            for (int line = 0; line < Math.min(reading.pages.get(page).size(), room.lines(page)); line++) {
                ReadingPages.Shown due = reading.pages.get(page).get(line);
                StringBuilder text = new StringBuilder();
                List<Integer> styles = new ArrayList<>();
                for (int k = 0; k < room.length(page, line); k++) {
                    text.append((char) room.sign(page, line, k));
                    styles.add(room.style(page, line, k));
                }
                String where = "page " + page + ", line " + line + " of " + reading.manuscript;
                same("signs of " + where, due.text, text.toString());
                same("styles of " + where, due.styles, styles);
                same("origin of " + where, due.origin, room.origin(page, line));
            }
        }
    }
}
