import java.util.ArrayList;
import java.util.Collections;
import java.util.HashMap;
import java.util.List;
import java.util.Map;

/** Part 2 of the document as it is read by the model: a TEXT is worked, signs come to rows. */
final class ReadingText {
    /** A FAULT's kind on its way out. */
    static final class Fault extends RuntimeException {
        private static final long serialVersionUID = 1L;
        final int kind;

        Fault(int kind) {
            super(null, null, false, false);
            this.kind = kind;
        }
    }

    /** A sign that has come to a row. A mark is carried by the very object. */
    static final class Sign {
        final char sign;
        final int style;
        final boolean hard;

        Sign(char sign, int style, boolean hard) {
            this.sign = sign;
            this.style = style;
            this.hard = hard;
        }

        boolean partsWords() {
            return sign == ' ' && !hard;
        }
    }

    /** A label (with its REF), an index mark or a note, and the sign that carries it. */
    static final class Mark {
        final String name;
        String key = "";
        String ref = "";
        int number;
        List<Sign> row = List.of();
        Sign carrier;

        Mark(String name) {
            this.name = name;
        }
    }

    static final Map<String, Integer> BUILT_IN = new HashMap<>();

    static {
        String all = "up 1 low 1 cap 1 rot 2 rev 1 rep 2 sub 3 word 2 len 1 at 2 add 2 mul 2 num 2 step 2 show 2 if 4"
            + " note 1 label 1 index 1 ref 1 page 1";
        String[] parts = all.split(" ");
        for (int k = 0; k < parts.length; k += 2) {
            BUILT_IN.put(parts[k], Integer.parseInt(parts[k + 1]));
        }
    }

    static final int NO_MARKS = 0;
    static final int BUT_NOTES = 1;
    static final int ALL_MARKS = 2;

    private final Reading room;
    private final int allowed;
    private int style;
    /** The TEXT's own row: marks may be where signs come to this one. */
    final List<Sign> own = new ArrayList<>();
    final List<Mark> marks = new ArrayList<>();

    ReadingText(Reading room, int allowed) {
        this.room = room;
        this.allowed = allowed;
    }

    static List<Sign> signs(String text) {
        List<Sign> out = new ArrayList<>();
        for (char c : text.toCharArray()) {
            out.add(new Sign(c, 0, false));
        }
        return out;
    }

    static String plain(List<Sign> row) {
        StringBuilder out = new StringBuilder();
        for (Sign s : row) {
            out.append(s.sign);
        }
        return out.toString();
    }

    static List<List<Sign>> words(List<Sign> row) {
        List<List<Sign>> out = new ArrayList<>();
        List<Sign> word = null;
        for (Sign s : row) {
            if (s.partsWords()) {
                word = null;
                continue;
            }
            if (word == null) {
                word = new ArrayList<>();
                out.add(word);
            }
            word.add(s);
        }
        return out;
    }

    static String joined(List<List<Sign>> words) {
        List<String> out = new ArrayList<>();
        for (List<Sign> word : words) {
            out.add(plain(word));
        }
        return String.join(" ", out);
    }

    static boolean isLetter(char c) {
        return isSmall(c) || isGreat(c);
    }

    static boolean isSmall(char c) {
        return c >= 'a' && c <= 'z';
    }

    static boolean isGreat(char c) {
        return c >= 'A' && c <= 'Z';
    }

    static String great(String text) {
        StringBuilder out = new StringBuilder();
        for (char c : text.toCharArray()) {
            out.append(isSmall(c) ? (char) (c - 32) : c);
        }
        return out.toString();
    }

    static String small(String text) {
        StringBuilder out = new StringBuilder();
        for (char c : text.toCharArray()) {
            out.append(isGreat(c) ? (char) (c + 32) : c);
        }
        return out.toString();
    }

    static String inSystem(int number, int system) {
        boolean roman = (system == 2 || system == 3) && number >= 1 && number <= 3999;
        if (roman) {
            String hundreds = " c cc ccc cd d dc dcc dccc cm";
            String tens = hundreds.replace('m', 'C').replace('d', 'L').replace('c', 'X');
            String ones = hundreds.replace('m', 'X').replace('d', 'V').replace('c', 'I');
            String out = "mmm".substring(0, number / 1000) + (hundreds.split(" ", -1)[number / 100 % 10]
                + tens.split(" ", -1)[number / 10 % 10] + ones.split(" ", -1)[number % 10]);
            return system == 2 ? small(out) : great(out);
        }
        if (system == 4 && number >= 1) {
            StringBuilder out = new StringBuilder();
            for (int rest = number; rest > 0; rest = (rest - 1) / 26) {
                out.insert(0, (char) ('a' + (rest - 1) % 26));
            }
            return out.toString();
        }
        return Integer.toString(number, system == 5 ? 36 : 10);
    }

    void work(String text) {
        work(text, own, null, 0);
    }

    /** The row that a text of its own comes to, which is no block's: no marks there. */
    List<Sign> workAlone(String text) {
        List<Sign> row = new ArrayList<>();
        work(text, row, null, 0);
        return row;
    }

    boolean hasSolidSign() {
        return lastSolid() != null;
    }

    private Sign lastSolid() {
        for (int k = own.size() - 1; k >= 0; k--) {
            if (own.get(k).sign != ' ') {
                return own.get(k);
            }
        }
        return null;
    }

    private void put(List<Sign> row, Sign sign) {
        room.spend(1);
        // A sign comes anew each time: else a mark could be carried twice.
        Sign fresh = new Sign(sign.sign, sign.style, sign.hard);
        row.add(fresh);
        for (Mark mark : marks) {
            if (row == own && mark.carrier == null && fresh.sign != ' ') {
                mark.carrier = fresh;
            }
        }
    }

    private void putAll(List<Sign> row, List<Sign> all) {
        for (Sign s : all) {
            put(row, s);
        }
    }

    private void putText(List<Sign> row, String text) {
        for (char c : text.toCharArray()) {
            put(row, new Sign(c, style, false));
        }
    }

    /** What a { .. }, a BODY or one of if's is: worked, and the style behind it is as ahead of it. */
    private void inside(String text, List<Sign> row, List<List<Sign>> arguments, int depth) {
        if (depth > 30) {
            throw new Fault(7);
        }
        room.spend(5);
        int ahead = style;
        work(text, row, arguments, depth);
        style = ahead;
    }

    private static int closing(String text, int open) {
        int depth = 0;
        for (int k = open; k < text.length(); k++) {
            char c = text.charAt(k);
            if (c == '\\') {
                k++;
            } else if (c == '{') {
                depth++;
            } else if (c == '}') {
                depth--;
                if (depth == 0) {
                    return k;
                }
            }
        }
        throw new Fault(2);
    }

    private void work(String text, List<Sign> row, List<List<Sign>> arguments, int depth) {
        int at = 0;
        while (at < text.length()) {
            char c = text.charAt(at);
            if (c == '\\' && at + 1 == text.length() || c == '}') {
                throw new Fault(2);
            } else if (c == '\\' && isLetter(text.charAt(at + 1))) {
                at = call(text, at + 1, row, arguments, depth);
            } else if (c == '\\') {
                char behind = text.charAt(at + 1);
                put(row, new Sign(behind, style, behind == ' '));
                at += 2;
            } else if (c == '{') {
                int close = closing(text, at);
                inside(text.substring(at + 1, close), row, arguments, depth + 1);
                at = close + 1;
            } else if (c == '#') {
                String digit = text.substring(at + 1, Math.min(at + 2, text.length()));
                if (arguments == null || !digit.matches("[1-9]") || Integer.parseInt(digit) > arguments.size()) {
                    throw new Fault(11);
                }
                putAll(row, arguments.get(Integer.parseInt(digit) - 1));
                at += 2;
            } else {
                style ^= c == '*' ? 1 : c == '_' ? 2 : 0;
                if (c != '*' && c != '_') {
                    put(row, new Sign(c, style, false));
                }
                at++;
            }
        }
    }

    private int call(String text, int at, List<Sign> row, List<List<Sign>> arguments, int depth) {
        int end = at;
        while (end < text.length() && isLetter(text.charAt(end))) {
            end++;
        }
        String name = text.substring(at, end);
        room.spend(20);
        Reading.Macro macro = room.macros.get(name);
        if (macro == null && !BUILT_IN.containsKey(name)) {
            throw new Fault(3);
        }
        boolean mark = name.equals("note") || name.equals("label") || name.equals("index");
        if (mark && (row != own || allowed == NO_MARKS || allowed == BUT_NOTES && name.equals("note"))) {
            throw new Fault(6);
        }
        int wanted = macro != null ? macro.wants : BUILT_IN.get(name);
        List<String> found = new ArrayList<>();
        for (int k = 0; k < wanted; k++) {
            if (end >= text.length() || text.charAt(end) != '{') {
                throw new Fault(4);
            }
            int close = closing(text, end);
            found.add(text.substring(end + 1, close));
            end = close + 1;
        }
        List<List<Sign>> rows = new ArrayList<>();
        for (String argument : name.equals("if") ? found.subList(0, 2) : found) {
            List<Sign> argumentRow = new ArrayList<>();
            inside(argument, argumentRow, arguments, depth + 1);
            rows.add(argumentRow);
        }
        if (macro != null) {
            inside(macro.body, row, rows, depth + 1);
        } else if (name.equals("if")) {
            boolean same = plain(rows.get(0)).equals(plain(rows.get(1)));
            inside(found.get(same ? 2 : 3), row, arguments, depth + 1);
        } else if (mark) {
            mark(name, rows.get(0));
        } else {
            give(name, rows, row);
        }
        return end;
    }

    private static int number(List<Sign> row, int least, int most) {
        String text = plain(row);
        if (!text.matches("-?[0-9]{1,4}") || Integer.parseInt(text) < least || Integer.parseInt(text) > most) {
            throw new Fault(5);
        }
        return Integer.parseInt(text);
    }

    private static int number(List<Sign> row) {
        return number(row, -9999, 9999);
    }

    private static String key(List<Sign> row) {
        if (!plain(row).matches("[A-Za-z0-9]{1,12}")) {
            throw new Fault(5);
        }
        return plain(row);
    }

    private void give(String name, List<List<Sign>> rows, List<Sign> row) {
        List<Sign> first = rows.get(0);
        List<Sign> last = rows.get(rows.size() - 1);
        switch (name) {
            case "rev":
                List<Sign> turned = new ArrayList<>(first);
                Collections.reverse(turned);
                putAll(row, turned);
                break;
            case "rep":
                int times = number(first, 0, 50);
                for (int k = 0; k < times; k++) {
                    putAll(row, last);
                }
                break;
            case "sub":
                int from = Math.min(last.size(), number(first, 0, 9999));
                putAll(row, last.subList(from, Math.min(last.size(), from + number(rows.get(1), 0, 9999))));
                break;
            case "word":
                int wanted = number(first);
                List<List<Sign>> words = words(last);
                putAll(row, wanted >= 0 && wanted < words.size() ? words.get(wanted) : List.of());
                break;
            case "up":
            case "low":
            case "cap":
            case "rot":
                recast(name, name.equals("rot") ? number(first) : 0, last, row);
                break;
            default:
                putText(row, told(name, first, last));
        }
    }

    private void recast(String name, int turn, List<Sign> signs, List<Sign> row) {
        String all = plain(signs);
        for (int k = 0; k < all.length(); k++) {
            char c = all.charAt(k);
            String other = String.valueOf(c);
            if (name.equals("up") || name.equals("cap") && (k == 0 || !isLetter(all.charAt(k - 1)))) {
                other = great(other);
            } else if (name.equals("low")) {
                other = small(other);
            } else if (name.equals("rot") && isLetter(c)) {
                String alphabet = isSmall(c) ? "abcdefghijklmnopqrstuvwxyz" : "ABCDEFGHIJKLMNOPQRSTUVWXYZ";
                int place = (alphabet.indexOf(c) + turn) % 26;
                other = String.valueOf(alphabet.charAt(place < 0 ? place + 26 : place));
            }
            put(row, new Sign(other.charAt(0), signs.get(k).style, signs.get(k).hard));
        }
    }

    private String told(String name, List<Sign> first, List<Sign> last) {
        switch (name) {
            case "len":
                return inSystem(first.size(), 1);
            case "at":
                return inSystem(plain(last).indexOf(plain(first)), 1);
            case "add":
                return inSystem(number(first) + number(last), 1);
            case "mul":
                return inSystem(number(first) * number(last), 1);
            case "num":
                return inSystem(number(first), number(last, 1, 5));
            case "step":
            case "show":
                return counter(name, key(first), number(last, 1, 5));
            default:
                return room.referred(name, key(first));
        }
    }

    private String counter(String name, String key, int system) {
        if (name.equals("step")) {
            if (!room.counters.containsKey(key) && room.counters.size() == 20) {
                throw new Fault(9);
            }
            room.counters.merge(key, 1, Integer::sum);
        }
        return inSystem(room.counters.getOrDefault(key, 0), system);
    }

    private void mark(String name, List<Sign> row) {
        Mark mark = new Mark(name);
        mark.carrier = lastSolid();
        if (name.equals("label")) {
            mark.key = key(row);
            mark.ref = room.latest;
        } else if (name.equals("index")) {
            mark.key = joined(words(row));
            if (words(row).isEmpty()) {
                throw new Fault(5);
            }
        } else {
            mark.row = row;
        }
        room.told(mark);
        if (name.equals("note")) {
            putText(own, "[" + mark.number + "]");
            mark.carrier = own.get(own.size() - 1);
        }
        marks.add(mark);
    }
}
