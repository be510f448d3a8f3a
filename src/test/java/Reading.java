import java.util.ArrayList;
import java.util.HashMap;
import java.util.IdentityHashMap;
import java.util.LinkedHashMap;
import java.util.List;
import java.util.Map;
import java.util.Set;
import java.util.TreeSet;

/** The whole document, read a second time and written down with Java's library: what TypeRoom is held against. */
final class Reading {
    static final class Macro {
        final int wants;
        final String body;

        Macro(int wants, String body) {
            this.wants = wants;
            this.body = body;
        }
    }

    static final class Heading {
        String title = "";
        int level;
        int page;
        ReadingLines.Line first;
    }

    /** All that one round makes. */
    static final class Round {
        final Map<String, ReadingText.Mark> labels = new LinkedHashMap<>();
        final List<ReadingText.Mark> keys = new ArrayList<>();
        final List<Heading> headings = new ArrayList<>();
        final List<Object> flow = new ArrayList<>();
        final Map<ReadingText.Mark, ReadingLines.Line> lineOf = new IdentityHashMap<>();
        final Map<ReadingText.Mark, Integer> pageOf = new IdentityHashMap<>();
        final Map<ReadingText.Mark, List<ReadingLines.Line>> noteLines = new IdentityHashMap<>();
        int notes;
        int unknown;
        int made;
        int first = 1;
        int system = 1;

        String labelOf(int page) {
            return ReadingText.inSystem(first + page, system);
        }

        /** What must be as in the round before. */
        String numbers() {
            StringBuilder out = new StringBuilder();
            for (ReadingText.Mark label : labels.values()) {
                out.append("label ").append(label.key).append('=').append(label.ref);
                out.append('@').append(pageOf.get(label)).append('\n');
            }
            for (Heading heading : headings) {
                out.append("heading ").append(heading.level).append(heading.title);
                out.append('@').append(heading.page).append('\n');
            }
            for (ReadingText.Mark key : keys) {
                out.append("index ").append(key.key).append('@').append(pageOf.get(key)).append('\n');
            }
            return out.toString();
        }
    }

    private static final Map<String, int[]> SETTINGS = new HashMap<>();

    static {
        String all = "wide 12 80 40 indent 0 8 2 justify 0 3 3 hyph 0 1 1 left 1 9 2 right 1 9 2 fill 0 1 0 keep 0 3 2"
            + " gap 0 3 1 high 5 60 24 head 0 1 0 first 1 999 1 system 1 5 1";
        String[] parts = all.split(" ");
        for (int k = 0; k < parts.length; k += 4) {
            SETTINGS.put(parts[k], new int[] {
                Integer.parseInt(parts[k + 1]), Integer.parseInt(parts[k + 2]), Integer.parseInt(parts[k + 3])});
        }
    }

    String tape = "";
    String manuscript = "";
    String answer = "";
    private final List<String> former = new ArrayList<>();
    private int here;
    private int ever;
    private int setWork;
    final Map<String, Macro> macros = new HashMap<>();
    final List<String> patterns = new ArrayList<>();
    final List<String> exceptions = new ArrayList<>();
    final Map<String, Integer> counters = new HashMap<>();
    private final Map<String, Integer> settings = new HashMap<>();
    Round before = new Round();
    Round round = new Round();
    String latest = "";
    int line;
    List<List<ReadingPages.Shown>> pages;
    private Round proof;
    private int rounds;
    private boolean settled;
    private List<String> kept;

    int it(String setting) {
        return settings.getOrDefault(setting, SETTINGS.get(setting)[2]);
    }

    void spend(int work) {
        if (here + work > 60000 || !pay(work)) {
            throw new ReadingText.Fault(8);
        }
        here += work;
    }

    private boolean pay(int work) {
        if (ever + work > 400000) {
            return false;
        }
        ever += work;
        return true;
    }

    int feed(long... numbers) {
        StringBuilder out = new StringBuilder(tape);
        for (long number : numbers) {
            for (int shift = 56; shift >= 0; shift -= 8) {
                int sign = (int) (number >>> shift & 255);
                if ((sign == 10 || sign >= 32 && sign <= 126) && out.length() < 4000) {
                    out.append((char) sign);
                }
            }
        }
        tape = out.toString();
        return tape.length();
    }

    private String take() {
        String taken = tape;
        tape = "";
        return taken;
    }

    List<String> lines() {
        List<String> out = new ArrayList<>(List.of(manuscript.split("\n", -1)));
        if (out.get(out.size() - 1).isEmpty()) {
            out.remove(out.size() - 1);
        }
        return out;
    }

    private void become(String next) {
        former.add(manuscript);
        if (former.size() > 6) {
            former.remove(0);
        }
        manuscript = next;
    }

    int write() {
        become(take());
        return lines().size();
    }

    int add() {
        String more = take();
        if (manuscript.length() + more.length() > 4000) {
            return -1;
        }
        if (!pay(manuscript.length())) {
            return -4;
        }
        become(manuscript + more);
        return lines().size();
    }

    int replace(int ways) {
        String taken = take();
        if (ways < 0 || ways > 7) {
            throw new IllegalArgumentException();
        }
        int end = taken.indexOf('\n');
        if (end < 1 || end > 60) {
            return -2;
        }
        if (!pay(manuscript.length())) {
            return -4;
        }
        String old = taken.substring(0, end);
        StringBuilder out = new StringBuilder();
        int times = 0;
        int at = 0;
        while (at < manuscript.length()) {
            if (!stands(old, at, ways)) {
                out.append(manuscript.charAt(at));
                at++;
                continue;
            }
            if (!pay(10 + taken.length() - end - 1)) {
                return -4;
            }
            out.append(inPlaceOf(manuscript.substring(at, at + end), taken.substring(end + 1), ways));
            at += end;
            times++;
            if (out.length() > 4000) {
                return -3;
            }
        }
        if (out.length() > 4000) {
            return -3;
        }
        if (times > 0) {
            become(out.toString());
        }
        return times;
    }

    private boolean stands(String old, int at, int ways) {
        int end = at + old.length();
        if (end > manuscript.length()) {
            return false;
        }
        String there = manuscript.substring(at, end);
        boolean alike = (ways & 2) != 0 && ReadingText.small(there).equals(ReadingText.small(old));
        boolean alone = !manuscript.substring(Math.max(0, at - 1), at).matches("[A-Za-z0-9]")
            && !manuscript.substring(end, Math.min(manuscript.length(), end + 1)).matches("[A-Za-z0-9]");
        return (there.equals(old) || alike) && (alone || (ways & 1) == 0);
    }

    private static String inPlaceOf(String found, String fresh, int ways) {
        String letters = found.replaceAll("[^A-Za-z]", "");
        if ((ways & 4) != 0 && letters.length() >= 2 && letters.equals(ReadingText.great(letters))) {
            return ReadingText.great(fresh);
        }
        if ((ways & 4) != 0 && ReadingText.isGreat(found.charAt(0)) && !fresh.isEmpty()) {
            return ReadingText.great(fresh.substring(0, 1)) + fresh.substring(1);
        }
        return fresh;
    }

    boolean back() {
        if (former.isEmpty()) {
            return false;
        }
        manuscript = former.remove(former.size() - 1);
        return true;
    }

    int find(int from) {
        String taken = take();
        return taken.isEmpty() || from < 0 || from > manuscript.length() ? -1 : manuscript.indexOf(taken, from);
    }

    int letter(int k) {
        return k >= 0 && k < manuscript.length() ? manuscript.charAt(k) : -1;
    }

    /** Part 3. */
    void follow(String directive) {
        String[] words = directive.split(" ", -1);
        if (directive.matches("@def [A-Za-z]{1,12} [0-9]( .*)?") && !ReadingText.BUILT_IN.containsKey(words[1])) {
            if (!macros.containsKey(words[1]) && macros.size() == 40) {
                throw new ReadingText.Fault(9);
            }
            int head = words[1].length() + 8;
            macros.put(words[1], new Macro(Integer.parseInt(words[2]), directive.substring(Math.min(head, directive.length()))));
        } else if (directive.matches("@set [a-z]+ [0-9]{1,3}") && SETTINGS.containsKey(words[1])) {
            int value = Integer.parseInt(words[2]);
            if (value < SETTINGS.get(words[1])[0] || value > SETTINGS.get(words[1])[1]) {
                throw new ReadingText.Fault(1);
            }
            settings.put(words[1], value);
        } else if (directive.matches("@(pat|word) .*")) {
            takeWords(words);
        } else if (!directive.matches("@toc|@index|@page")) {
            throw new ReadingText.Fault(1);
        }
    }

    private void takeWords(String[] words) {
        boolean pattern = words[0].equals("@pat");
        for (String word : List.of(words).subList(1, words.length)) {
            boolean good = pattern ? word.matches("(?=.*[a-z])(?!.*[0-9]{2})[a-z0-9.]{1,16}")
                : word.matches("(?=.{2,24}$)[a-z]+(-[a-z]+)*");
            if (!good) {
                throw new ReadingText.Fault(1);
            }
        }
        List<String> all = pattern ? patterns : exceptions;
        for (String word : List.of(words).subList(1, words.length)) {
            if (all.size() == (pattern ? 120 : 60)) {
                throw new ReadingText.Fault(9);
            }
            spend(10);
            all.add(word);
        }
    }

    /** What ref and page give of a label of the round before. */
    String referred(String name, String key) {
        ReadingText.Mark label = before.labels.get(key);
        round.unknown += label == null ? 1 : 0;
        return label == null ? "??" : name.equals("ref") ? label.ref : before.labelOf(before.pageOf.get(label));
    }

    /** A mark that was told comes to the round. */
    void told(ReadingText.Mark mark) {
        if (mark.name.equals("label") && round.labels.containsKey(mark.key)) {
            throw new ReadingText.Fault(10);
        }
        boolean many = mark.name.equals("label") && round.labels.size() == 60
            || mark.name.equals("index") && round.keys.size() == 100 || mark.name.equals("note") && round.notes == 60;
        if (many) {
            throw new ReadingText.Fault(9);
        }
        if (mark.name.equals("label")) {
            round.labels.put(mark.key, mark);
        } else if (mark.name.equals("index")) {
            round.keys.add(mark);
        } else {
            round.notes++;
            mark.number = round.notes;
        }
    }

    int set() {
        here = 0;
        pages = null;
        proof = null;
        before = new Round();
        settled = false;
        int fault = 0;
        try {
            for (rounds = 1; rounds <= 5 && !settled; rounds++) {
                goRound();
            }
            rounds--;
        } catch (ReadingText.Fault met) {
            fault = met.kind + 16 * line;
            pages = null;
            proof = null;
        }
        setWork = here;
        return fault;
    }

    private void goRound() {
        line = 0;
        latest = "";
        round = new Round();
        macros.clear();
        patterns.clear();
        exceptions.clear();
        settings.clear();
        counters.clear();
        spend(lines().size());
        ReadingBlocks blocks = new ReadingBlocks(this);
        for (ReadingBlocks.Block block : ReadingBlocks.blocksOf(lines())) {
            blocks.go(block);
        }
        ReadingPages made = new ReadingPages(this);
        round.first = it("first");
        round.system = it("system");
        for (Map.Entry<ReadingText.Mark, ReadingLines.Line> mark : round.lineOf.entrySet()) {
            round.pageOf.put(mark.getKey(), made.pageOf(mark.getValue()));
        }
        for (Heading heading : round.headings) {
            heading.page = made.pageOf(heading.first);
        }
        settled = round.numbers().equals(before.numbers());
        before = round;
        proof = round;
        pages = made.show();
    }

    int labelled() {
        String key = take();
        if (proof == null || !proof.labels.containsKey(key)) {
            return -1;
        }
        answer = proof.labels.get(key).ref;
        return proof.pageOf.get(proof.labels.get(key));
    }

    int tell() {
        String text = take().replace('\n', ' ');
        here = 0;
        counters.clear();
        round = new Round();
        before = proof == null ? new Round() : proof;
        try {
            answer = ReadingText.plain(new ReadingText(this, ReadingText.NO_MARKS).workAlone(text));
        } catch (ReadingText.Fault met) {
            return -1 - met.kind;
        }
        return answer.length();
    }

    int hyphens() {
        String letters = take();
        if (!letters.matches("[A-Za-z]{1,40}")) {
            return -1;
        }
        boolean[] points = new ReadingLines(this).hyphenPoints(letters);
        StringBuilder out = new StringBuilder();
        for (int k = 0; k < letters.length(); k++) {
            out.append(points[k] ? "-" : "").append(letters.charAt(k));
        }
        answer = out.toString();
        return answer.length() - letters.length();
    }

    int answer(int k) {
        return k >= 0 && k < answer.length() ? answer.charAt(k) : -1;
    }

    private List<String> shownLines() {
        List<String> out = new ArrayList<>();
        for (List<ReadingPages.Shown> page : pages) {
            for (ReadingPages.Shown shown : page) {
                out.add(shown.text);
            }
        }
        return out;
    }

    int keep() {
        if (pages == null) {
            throw new IllegalStateException();
        }
        kept = shownLines();
        return kept.size();
    }

    int changed(int what) {
        if (pages == null || kept == null) {
            throw new IllegalStateException();
        }
        if (what < 0 || what > 2) {
            throw new IllegalArgumentException();
        }
        List<String> now = shownLines();
        if (what == 2) {
            int same = 0;
            while (same < now.size() && same < kept.size() && now.get(same).equals(kept.get(same))) {
                same++;
            }
            return same == now.size() && same == kept.size() ? -1 : same;
        }
        return (what == 0 ? now : kept).size() - longest(now, kept);
    }

    private static int longest(List<String> one, List<String> two) {
        int[][] most = new int[one.size() + 1][two.size() + 1];
        for (int i = 1; i <= one.size(); i++) {
            for (int j = 1; j <= two.size(); j++) {
                most[i][j] = one.get(i - 1).equals(two.get(j - 1)) ? most[i - 1][j - 1] + 1
                    : Math.max(most[i - 1][j], most[i][j - 1]);
            }
        }
        return most[one.size()][two.size()];
    }

    Set<String> labelKeys() {
        return proof == null ? Set.of() : proof.labels.keySet();
    }

    private int countOfProof(int what) {
        switch (what) {
            case 3:
                return pages.size();
            case 4:
                return proof.notes;
            case 5:
                return proof.headings.size();
            case 6:
                TreeSet<String> keys = new TreeSet<>();
                proof.keys.forEach(mark -> keys.add(mark.key));
                return keys.size();
            case 7:
                return proof.labels.size();
            case 8:
                return pages.stream().mapToInt(page -> (int) page.stream().filter(shown -> shown.put).count()).sum();
            case 9:
                return rounds;
            case 10:
                return settled ? 1 : 0;
            case 11:
                return proof.unknown;
            default:
                return shownLines().size();
        }
    }

    int count(int what) {
        if (what >= 3 && what <= 12) {
            return proof == null ? 0 : countOfProof(what);
        }
        int[] all = {tape.length(), manuscript.length(), lines().size(), 0, 0, 0, 0, 0, 0, 0, 0, 0, 0, setWork, ever,
            former.size(), macros.size(), patterns.size(), exceptions.size(), answer.length()};
        return what >= 0 && what < all.length ? all[what] : -1;
    }
}
