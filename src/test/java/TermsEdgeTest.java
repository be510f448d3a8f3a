/** The edges that the document names under "Terms", sentence by sentence. */
public final class TermsEdgeTest {
    private static final String PLAIN = "@set indent 0\n@set justify 0\n@set gap 0\n";

    public static void main(String[] args) {
        signs();
        letters();
        tape();
        tapeIsTaken();
        tapeStays();
        manuscript();
        lines();
        emptyLines();
        kindsOfLines();
        items();
        blocksAlone();
        blocksOfManyLines();
        itemsAndTheirLines();
        texts();
        blockLines();
        Desk.close();
    }

    private static void is(String what, String due, String text) {
        Desk.same(what, due, Desk.setNew(PLAIN + text));
    }

    private static void signs() {
        Desk.says("SIGNS are 10 (a line's END) and 32 to 126.");
        for (long sign = 0; sign < 256; sign++) {
            boolean good = sign == 10 || sign >= 32 && sign <= 126;
            TypeRoom room = new TypeRoom();
            Desk.same("feed of " + sign, good ? 1 : 0, room.feed(sign << 56, 0, 0));
            room.write();
            Desk.same("letter " + sign, good ? (int) sign : TypeRoom.NONE, room.letter(0));
        }
    }

    private static void letters() {
        Desk.says("LETTERS are a to z (SMALL) and A to Z (GREAT); BLANK is 32.");
        for (char sign = 33; sign <= 126; sign++) {
            boolean small = sign >= 'a' && sign <= 'z';
            boolean great = sign >= 'A' && sign <= 'Z';
            Desk desk = new Desk();
            desk.feed("" + sign);
            Desk.same("letters alone are parted: " + sign, small || great ? 0 : -1, desk.room.hyphens());
            String text = (small || great ? "" : "\\") + sign;
            Desk.same("great: " + sign, "" + (small ? (char) (sign - 32) : sign), desk.told("\\up{" + text + "}"));
            Desk.same("small: " + sign, "" + (great ? (char) (sign + 32) : sign), desk.told("\\low{" + text + "}"));
            Desk.same("further on: " + sign, small || great, !desk.told("\\rot{1}{" + text + "}").equals("" + sign));
            Desk.same("a name: " + sign, (small || great) ? 0 : 17, desk.set("@def x" + sign + " 0"));
        }
        is("a blank parts words", "a b/=", "a b");
    }

    private static void tape() {
        Desk.says("The TAPE has at most 4,000 signs");
        Desk desk = new Desk();
        Desk.same("3,999", 3999, desk.feed(Desk.times("x", 3999)));
        Desk.same("two more", 4000, desk.feed("ab"));
        Desk.same("count", 4000, desk.room.count(0));
        Desk.same("one more", 4000, desk.feed("c"));
        desk.room.write();
        Desk.same("the last that came", (int) 'a', desk.room.letter(3999));
    }

    private interface Call {
        int go(TypeRoom room);
    }

    private static void takes(String what, String manuscript, String text, int due, Call call) {
        Desk desk = new Desk();
        desk.write(manuscript);
        desk.feed(text);
        Desk.same(what, due, call.go(desk.room));
        Desk.same(what + ": the tape", 0, desk.room.count(0));
    }

    private static void tapeIsTaken() {
        Desk.says("what reads it takes it: it is empty then, whatever comes of it.");
        takes("write", "", "a", 1, room -> room.write());
        takes("add", "a", "b", 1, room -> room.add());
        takes("add that is none", Desk.times("a", 4000), "b", -1, room -> room.add());
        takes("replace", "a", "a\nb", 1, room -> room.replace(0));
        takes("replace of none", "a", "x\nb", 0, room -> room.replace(0));
        takes("replace without a 10", "a", "x", -2, room -> room.replace(0));
        takes("replace that is too long", Desk.times("a", 4000), "a\nbb", -3, room -> room.replace(0));
        takes("find", "ab", "b", 1, room -> room.find(0));
        takes("find of none", "ab", "c", -1, room -> room.find(0));
        takes("find from no place", "ab", "b", -1, room -> room.find(-1));
        takes("labelled without a proof", "a\\label{k}", "k", -1, room -> room.labelled());
        takes("labelled", "a\\label{k}", "k", 0, room -> room.set() + room.labelled());
        takes("labelled of none", "a\\label{k}", "x", -1, room -> room.set() + room.labelled());
        takes("tell", "", "ab", 2, room -> room.tell());
        takes("tell of a fault", "", "ab}", -3, room -> room.tell());
        takes("hyphens", "", "ab", 0, room -> room.hyphens());
        takes("hyphens of no letters", "", "a1", -1, room -> room.hyphens());
        Desk.says("What throws changes nothing, but that a TAPE that is read is empty.");
        takes("replace that throws", "ab", "a\nb", -7, room -> {
            try {
                return room.replace(8);
            } catch (IllegalArgumentException wrong) {
                return -7;
            }
        });
    }

    private static void tapeStays() {
        Desk desk = new Desk();
        desk.write("a\\label{k}");
        desk.feed("tape");
        desk.room.set();
        desk.room.keep();
        desk.room.changed(0);
        desk.room.pages();
        desk.room.letter(0);
        desk.room.answer(0);
        desk.room.back();
        Desk.same("what doesn't read it leaves it", 4, desk.room.count(0));
        try {
            desk.room.lines(7);
        } catch (IndexOutOfBoundsException none) {
            Desk.same("what throws, too", 4, desk.room.count(0));
        }
        try {
            desk.room.changed(7);
        } catch (IllegalArgumentException none) {
            Desk.same("and another", 4, desk.room.count(0));
        }
        Desk.same("it goes on", 5, desk.feed("s"));
    }

    private static void manuscript() {
        Desk.says("The MANUSCRIPT has at most 4,000 (none at first).");
        Desk desk = new Desk();
        Desk.same("none at first", "0 0 -1", desk.room.count(1) + " " + desk.room.count(2) + " " + desk.room.letter(0));
        Desk.same("4,000", 1, desk.write(Desk.times("x", 4000)));
        Desk.same("there", 4000, desk.room.count(1));
        desk.feed("y");
        Desk.same("4,001 by add", -1, desk.room.add());
        desk.feed("x\nyy");
        Desk.same("4,001 by replace", -3, desk.room.replace(0));
        Desk.same("there still", 4000, desk.room.count(1));
    }

    private static void lines() {
        Desk.says("Its LINES end with a 10 (perhaps not the last one; behind the last 10 there is none without a sign), numbered from 1 on.");
        String[] texts = {"", "\n", "\n\n", "a", "a\n", "a\nb", "a\nb\n", "a\n ", " ", "a\n\n\n"};
        int[] due = {0, 1, 2, 1, 1, 2, 2, 2, 1, 3};
        for (int i = 0; i < texts.length; i++) {
            Desk desk = new Desk();
            Desk.same("write " + i, due[i], desk.write(texts[i]));
            Desk.same("count " + i, due[i], desk.room.count(2));
            desk.room.set();
            Desk.same("from 1 on: " + i, 2 + 16 * (due[i] + 1), desk.set(Desk.times("\n", due[i]) + "}"));
        }
        Desk desk = new Desk();
        desk.write("a");
        desk.feed("b\nc");
        Desk.same("add goes on in the last line", 2, desk.room.add());
        desk.feed("\n");
        Desk.same("its end makes no line", 2, desk.room.add());
        desk.feed("d");
        Desk.same("a sign behind it does", 3, desk.room.add());
    }

    private static void emptyLines() {
        Desk.says("A line is EMPTY, if it has nothing but blanks");
        is("blanks part paragraphs", "a/b/=", "a\n     \nb");
        is("no sign, too", "a/b/=", "a\n\nb");
        is("a blank and a sign are text", "a . b/=", "a\n   .\nb");
        is("nothing else", "", "   \n\n ");
    }

    private static void kindsOfLines() {
        Desk.says("a DIRECTIVE (@), a HEADING (one to three = and a blank), a TABLE's (|), RAW (>)");
        is("@", "fault 1@4", "@");
        is("@ behind a blank is text", "@/=", " @");
        is("@ within is text", "a@page/=", "a@page");
        is("one =", "1 a/=", "= a");
        is("two =", "0.1 a/=", "== a");
        is("three =", "0.0.1 a/=", "=== a");
        is("four =", "==== a/=", "==== a");
        is("no blank", "=a ==a ===a/=", "=a\n==a\n===a");
        is("nothing behind", "= ===/=", "=\n===");
        is("behind a blank", "= a/=", " = a");
        is("a blank and nothing", "1/=", "= ");
        is("|", "a/-/=", "|a");
        is("| behind a blank", "|a/=", " |a");
        is("| within", "a|/=", "a|");
        is(">", "*a/=", ">*a");
        is("> behind a blank", ">a/=", " >a");
        is("> alone", "/=", ">");
    }

    private static void items() {
        Desk.says("an ITEM (0, 2 or 4 blanks, then - or #, then a blank), else a TEXT line.");
        is("0", "- a/=", "- a");
        is("1", "- a/=", " - a");
        Desk.same("1 is no item", "      - a/=", Desk.setNew("@set indent 6\n - a"));
        is("2", "  * a/=", "  - a");
        is("3", "- a/=", "   - a");
        is("4", "    + a/=", "    - a");
        is("5", "- a/=", "     - a");
        is("6", "- a/=", "      - a");
        is("# 0", "1. a/=", "# a");
        is("# 2", "  a) a/=", "  # a");
        is("# 4", "    i. a/=", "    # a");
        is("# 1 is text", "fault 11@4", " # a");
        is("# 6 is text", "fault 11@4", "      # a");
        is("no blank behind -", "-a/=", "-a");
        is("no blank behind #", "fault 11@4", "#a");
        is("- and nothing", "-/=", "-");
        is("two -", "-- a/=", "-- a");
        is("- and a blank alone", "-/=", "- ");
        is("another sign", "+ a/=", "+ a");
    }

    private static void blocksAlone() {
        Desk.says("a DIRECTIVE, a HEADING alone");
        is("a heading takes no text", "1 a/b/=", "= a\nb");
        is("not even behind a blank", "1 a/b/=", "= a\n b");
        is("two headings", "1 a//2 b/=", "= a\n= b");
        is("a directive takes none", "a/=b/=", "a\n@page\nb");
    }

    private static void blocksOfManyLines() {
        Desk.says("TABLE lines one behind the other; RAW lines likewise");
        is("one table", "a/-/b/=", "|a\n|b");
        is("two tables", "a/-/b/-/=", "|a\n\n|b");
        is("other lines between", "a/-/x/b/-/=", "|a\n>x\n|b");
        Desk.same("one block of raw lines", "a/b//c/=", Desk.setNew(">a\n>b\n\n>c"));
        Desk.says("a PARAGRAPH: TEXT lines one behind the other. (Empty lines are no blocks.)");
        is("three lines", "a b c/=", "a\n b\nc");
        is("up to another kind", "a b/- c/=", "a\nb\n- c");
        Desk desk = new Desk();
        desk.set("\n  \n\n");
        Desk.same("empty lines cost a round's work alone", 3, desk.room.count(13));
    }

    private static void itemsAndTheirLines() {
        Desk.says("an ITEM and the TEXT lines right behind it that begin with a blank");
        is("one blank", "- a b/=", "- a\n b");
        is("several lines", "- a b c/=", "- a\n b\n  c");
        is("no blank", "- a/b/=", "- a\nb");
        is("an empty line between", "- a/b/=", "- a\n\n b");
        is("behind a text line none", "- a/b c/=", "- a\nb\n c");
        is("what is no item is text", "- a - b/=", "- a\n   - b");
        is("an item is none", "- a/  * b/=", "- a\n  - b");
        is("a raw line is none", "- a/ b/=", "- a\n> b");
    }

    private static void texts() {
        Desk.says("The TEXT of a heading, an item is what is behind the blank told last");
        is("of a heading", "1 = a/=", "= = a");
        is("of an item", "- - a/=", "- - a");
        is("of a deep item", "    + - a/=", "    - - a");
        is("more blanks are of the text", "1 a/=", "=   a");
        Desk.says("a TEXT that goes over several lines has a blank between them.");
        is("a group over two lines", "a b/=", "{a\nb}");
        is("a call over two lines", "A B/=", "\\up{a\nb}");
        is("a blank between its arguments", "fault 4@4", "\\add{1}\n{2}");
        is("behind a \\ it is a hard one", "12345678901234567890123456789012345678 1/2/=",
            "12345678901234567890123456789012345678\\\n12");
        is("of an item, too", "- A B/=", "- \\up{a\n b}");
        Desk desk = new Desk();
        desk.set("a\nb");
        Desk.same("it costs its work", 2 + 15 + 3 + 20 + 5, desk.room.count(13));
    }

    private static void blockLines() {
        Desk.says("A block's LINE is its first.");
        is("a paragraph", "fault 2@5", "\na\nb\n}");
        is("an item", "fault 2@4", "- a\n b\n }");
        is("a table", "fault 2@4", "|a\n|b\n|}");
        Desk desk = new Desk();
        desk.set("@set wide 12\n>a\n>b\n\naaaaaaaa\nbbbbbbbb\n");
        Desk.same("origins", "2 2 0 5 5", desk.origins(0));
    }
}
