/** Part 2 read word by word: many texts with calls within calls, what they come to and what they cost. */
public final class TextsTrialTest {
    private static final String MACROS = "@def two 2 #2(#1)#2\n@def none 0 -\n@def nest 1 \\two{#1}{\\up{#1}}\n";
    private static int seed = 23;

    public static void main(String[] args) {
        for (int round = 0; round < 2500; round++) {
            Desk desk = new Desk();
            desk.set(MACROS);
            int spent = desk.room.count(14);
            Piece piece = texts(3);
            if (piece.source.length() <= 4000 && piece.work <= 60000) {
                Desk.same(piece.source, shown(piece.value), desk.told(piece.source));
                Desk.same("work of " + piece.source, piece.work, desk.room.count(14) - spent);
            }
        }
        Desk.close();
    }

    private static int random(int below) {
        seed = seed * 1103515245 + 12345;
        return (seed >>> 10) % below;
    }

    /** A text, what it comes to (a hard blank stands as a ~), and what it costs. */
    private static final class Piece {
        final String source;
        final String value;
        final int work;

        Piece(String source, String value, int work) {
            this.source = source;
            this.value = value;
            this.work = work;
        }
    }

    private static String shown(String value) {
        return value.replace('~', ' ');
    }

    private static Piece texts(int depth) {
        StringBuilder source = new StringBuilder();
        StringBuilder value = new StringBuilder();
        int work = 0;
        for (int i = random(4); i >= 0; i--) {
            Piece piece = depth == 0 ? plain() : one(depth - 1);
            source.append(piece.source);
            value.append(piece.value);
            work += piece.work;
        }
        return new Piece(source.toString(), value.toString(), work);
    }

    private static Piece plain() {
        switch (random(7)) {
            case 0:
                return new Piece("\\ ", "~", 1);
            case 1:
                return new Piece("*", "", 0);
            case 2:
                return new Piece("\\{", "{", 1);
            case 3:
                return new Piece(" ", " ", 1);
            default:
                String[] rows = {"ink", "Az", "zZ 9", "a-b", "", "Mnop q"};
                String row = rows[random(rows.length)];
                return new Piece(row, row, row.length());
        }
    }

    private static Piece number(int least, int most) {
        int value = least + random(most - least + 1);
        String digits = value < 0 ? "" + value : random(4) == 0 && value < 1000 ? "0" + value : "" + value;
        return new Piece(digits, digits, digits.length());
    }

    /** A call of these arguments, which are all worked, and what it gives. */
    private static Piece call(String name, String gives, Piece... arguments) {
        StringBuilder source = new StringBuilder("\\" + name);
        int work = 20 + gives.length();
        for (Piece argument : arguments) {
            source.append('{').append(argument.source).append('}');
            work += 5 + argument.work;
        }
        return new Piece(source.toString(), gives, work);
    }

    private static Piece one(int depth) {
        Piece t = texts(depth);
        switch (random(20)) {
            case 0:
                return new Piece("{" + t.source + "}", t.value, 5 + t.work);
            case 1:
                return call("up", t.value.toUpperCase(), t);
            case 2:
                return call("low", t.value.toLowerCase(), t);
            case 3:
                return call("cap", capped(t.value), t);
            case 4:
                Piece turn = number(-60, 60);
                return call("rot", turned(t.value, Integer.parseInt(turn.value)), turn, t);
            case 5:
                return call("rev", new StringBuilder(t.value).reverse().toString(), t);
            case 6:
                Piece times = number(0, 4);
                return call("rep", Desk.times(t.value, Integer.parseInt(times.value)), times, t);
            case 7:
                return part(t);
            case 8:
                return word(t);
            case 9:
                return call("len", "" + t.value.length(), t);
            case 10:
                Piece s = texts(0);
                return call("at", "" + shown(t.value).indexOf(shown(s.value)), s, t);
            case 11:
                return reckoned();
            case 12:
                return chosen(t, depth);
            case 13:
                return body("two", t, texts(depth));
            case 14:
                return new Piece("\\none{}", "-", 20 + 5 + 1 + 5);
            case 15:
                return nested(t);
            default:
                return plain();
        }
    }

    private static String capped(String value) {
        StringBuilder out = new StringBuilder();
        for (int i = 0; i < value.length(); i++) {
            boolean inner = i > 0 && Character.isLetter(value.charAt(i - 1));
            out.append(inner ? value.charAt(i) : Character.toUpperCase(value.charAt(i)));
        }
        return out.toString();
    }

    private static String turned(String value, int by) {
        StringBuilder out = new StringBuilder();
        for (char sign : value.toCharArray()) {
            String alphabet = Character.isLowerCase(sign) ? "abcdefghijklmnopqrstuvwxyz" : "ABCDEFGHIJKLMNOPQRSTUVWXYZ";
            int at = alphabet.indexOf(sign);
            out.append(at < 0 ? sign : alphabet.charAt(((at + by) % 26 + 26) % 26));
        }
        return out.toString();
    }

    private static Piece part(Piece t) {
        Piece from = number(0, 6);
        Piece many = number(0, 6);
        int start = Math.min(t.value.length(), Integer.parseInt(from.value));
        int stop = Math.min(t.value.length(), start + Integer.parseInt(many.value));
        return call("sub", t.value.substring(start, stop), from, many, t);
    }

    private static Piece word(Piece t) {
        Piece which = number(-1, 3);
        String[] words = t.value.trim().split(" +");
        int n = Integer.parseInt(which.value);
        return call("word", n >= 0 && n < words.length ? words[n] : "", which, t);
    }

    private static Piece reckoned() {
        Piece a = number(-999, 9999);
        Piece b = number(-999, 9999);
        int one = Integer.parseInt(a.value);
        int two = Integer.parseInt(b.value);
        int system = random(2) == 0 ? 1 : 5;
        switch (random(3)) {
            case 0:
                return call("add", "" + (one + two), a, b);
            case 1:
                return call("mul", "" + one * two, a, b);
            default:
                return call("num", Integer.toString(one, system == 1 ? 10 : 36), a, new Piece("" + system, "" + system, 1));
        }
    }

    private static Piece chosen(Piece t, int depth) {
        Piece other = random(2) == 0 ? t : texts(depth);
        boolean same = shown(t.value).equals(shown(other.value));
        Piece yes = texts(depth);
        Piece no = texts(depth);
        Piece taken = same ? yes : no;
        return new Piece("\\if{" + t.source + "}{" + other.source + "}{" + yes.source + "}{" + no.source + "}", taken.value,
            20 + 5 + t.work + 5 + other.work + 5 + taken.work);
    }

    private static Piece body(String name, Piece a, Piece b) {
        String value = b.value + "(" + a.value + ")" + b.value;
        return new Piece("\\" + name + "{" + a.source + "}{" + b.source + "}", value, 20 + 5 + a.work + 5 + b.work + 5 + value.length());
    }

    /** The body calls another macro with its argument, and with that in great letters. */
    private static Piece nested(Piece a) {
        Piece argument = new Piece("#1", a.value, a.value.length());
        Piece inner = body("two", argument, call("up", a.value.toUpperCase(), argument));
        return new Piece("\\nest{" + a.source + "}", inner.value, 20 + 5 + a.work + 5 + inner.work);
    }
}
