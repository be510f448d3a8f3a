/** The edges of part 5 that tables have. */
public final class TablesEdgeTest {
    private static final String PLAIN = "@set indent 0\n@set justify 0\n@set gap 0\n@set wide 12\n";

    public static void main(String[] args) {
        cells();
        lastCells();
        alignment();
        columns();
        widths();
        narrowing();
        filling();
        rowLines();
        aligned();
        lineOfDashes();
        tablesOfNothing();
        worked();
        Desk.close();
    }

    private static void is(String what, String due, String text) {
        Desk.same(what, due, Desk.setNew(PLAIN + text));
    }

    private static void cells() {
        Desk.says("A TABLE: each line behind its first | is parted into CELLS at | (not behind a \\, not within { }; a } that closes none is a "
            + "sign there)");
        is("at |", "a | b/--+--/=", "|a|b");
        is("behind a \\", "a|b/---/=", "|a\\|b");
        is("behind two \\", "a\\ | b/---+--/=", "|a\\\\|b");
        is("behind the \\ of a brace", "{ | b/--+--/=", "|\\{|b");
        is("within braces", "a|b/---/=", "|{a|b}");
        is("within braces in braces", "a|b|c/-----/=", "|{a|{b}|c}");
        is("behind braces", "a | b/--+--/=", "|{a}|{b}");
        is("a closing one behind a \\ within", "a}|b/----/=", "|{a\\}|b}");
        is("an argument's braces", "A|B/---/=", "|\\up{a|b}");
        is("a } that closes none parts as a sign does", "fault 2@5", "|a}|b");
        is("it closes none that comes", "fault 2@5", "|a|b}|{c|d}");
        Desk desk = new Desk();
        desk.set("|a|}|{b|c}|" + Desk.times("d|", 5) + "e");
        Desk.same("nine cells were parted, else it would be 9", 9, desk.room.set() % 16);
        desk.set("|a|}{b|c}|" + Desk.times("d|", 5) + "e");
        Desk.same("eight cells", 2, desk.room.set() % 16);
    }

    private static void lastCells() {
        Desk.says("the last one doesn't count, if it has nothing but blanks.");
        is("nothing", "a | b/--+--/=", "|a|b|");
        is("blanks", "a | b/--+--/=", "|a|b|   ");
        is("the one ahead counts", "a | b |/--+---+--/=", "|a|b||");
        is("one of blanks ahead counts", "a |/--+--/=", "|a|  |");
        is("a hard blank counts", "a |/--+--/=", "|a|\\ ");
        is("an empty group counts", "a |/--+--/=", "|a|{}");
        is("the first may be the last", "", "|");
        is("of blanks", "", "|  ");
    }

    private static void alignment() {
        Desk.says("If all cells of its first line (one at least) are, blanks aside, just <, ^ or >, it is no row: the columns' ALIGNMENT (left, "
            + "middle, right; left without).");
        is("left", "a/---/bbb/=", "|<\n|a\n|bbb");
        is("middle", " a/---/bbb/=", "|^\n|a\n|bbb");
        is("right", "  a/---/bbb/=", "|>\n|a\n|bbb");
        is("blanks aside", "  a/---/bbb/=", "|  > |\n|a\n|bbb");
        is("left without", "  a | b/----+---/bbb | bb/=", "|>\n|a|b\n|bbb|bb");
        is("more of them than columns", "  a/---/bbb/=", "|>|^|<\n|a\n|bbb");
        is("not all", "> | x/--+--/a | b/=", "|>|x\n|a|b");
        is("one without a sign", "> |   | </--+---+--/=", "|>||<");
        is("two signs", ">>/--/a/=", "|>>\n|a");
        is("a sign behind a \\", ">/-/a/=", "|\\>\n|a");
        is("another sign", "v/-/a/=", "|v\n|a");
        is("none at all", "/-/a/=", "|\n|a");
        is("not in another line", "a/-/>/=", "|a\n|>");
        is("in the first alone", "  >/---/bbb/=", "|>\n|>\n|bbb");
        is("each table its own", "  a/---/bbb/a/---/bbb/=", "|>\n|a\n|bbb\n\n|a\n|bbb");
        is("eight of them", Desk.times("a | ", 7) + "  a/" + Desk.times("--+-", 7) + "---/" + Desk.times("b | ", 7) + "bbb/=",
            "@set wide 80\n" + Desk.times("|<", 7) + "|>\n" + Desk.times("|a", 8) + "\n" + Desk.times("|b", 7) + "|bbb");
    }

    private static void columns() {
        Desk.says("there are as many columns as the most cells of a row; its LENGTH: its words with one blank between.");
        is("the first row has most", "a | b/--+--/c |/=", "|a|b\n|c");
        is("the last row has most", "a |   |/--+---+--/b | c | d/=", "|a\n|b|c|d");
        is("each table its own", "a | b | c/--+---+--/d/-/=", "|a|b|c\n\n|d");
        is("one between", "a |/--+--/b | c/d |/=", "|a\n|b|c\n|d");
        is("words with one blank between", "a b/---/=", "|  a   b  ");
        is("a hard blank is of a word", "a  b/----/=", "|a\\ \\ b");
    }

    private static void widths() {
        Desk.says("A column is as wide as its longest cell, 1 at least.");
        is("1 at least", "  | a/--+--/=", "||a");
        is("the first is longest", "aaa/---/b/=", "|aaa\n|b");
        is("the last is longest", "b/---/aaa/=", "|b\n|aaa");
        is("each column its own", "aaa | b/----+----/c   | ddd/=", "|aaa|b\n|c|ddd");
    }

    private static void narrowing() {
        Desk.says("While all and 3 for each column but one are more than wide, and some column is above 1: the widest one (of several the "
            + "first) is one less.");
        is("just wide", "aaaa | bbbbb/-----+------/=", "|aaaa|bbbbb");
        is("one more: the first of two", "aaaa | bbbbb/a    |/-----+------/=", "|aaaaa|bbbbb");
        is("one more: the widest", "aaaa | bbbbb/     | b/-----+------/=", "|aaaa|bbbbbb");
        is("three more, in turn", "aaaa | bbbbb/aa   | b/-----+------/=", "|aaaaaa|bbbbbb");
        is("three columns", "aa | bb | cc/a  | b  | c/---+----+---/=", "|aaa|bbb|ccc");
        is("one column", "123456789012/3/------------/=", "|1234567890123");
        is("one column, just wide", "123456789012/------------/=", "|123456789012");
        is("all are 1", Desk.times("a | ", 7) + "a/" + Desk.times("b | ", 7) + "b/" + Desk.times("--+-", 7) + "-/=", Desk.times("|ab", 8));
        is("wide at hand", "aaaaa | bbbbb/------+------/=", "@set wide 13\n|aaaaa|bbbbb\n@set wide 12");
        is("what is long in another row", "a    | b/-----+------/cccc | ddddd/c    |/=", "|a|b\n|ccccc|ddddd");
    }

    private static void filling() {
        Desk.says("Each cell is filled by way 0 into its column's width (its ROOM, also below 4; no hyphen points)");
        is("below 4", "a  | cc | dd/bb | c  |/---+----+---/=", "|a bb|ccc|dd");
        is("no hyphen points", "bbbbbbbbbbbb/ccc/------------/=", "@pat b1b b1c\n|bbbbbbbbbbbbccc");
        is("nor behind a text that has them", "x/bbbbbbbbbbbb/ccc/------------/=", "@pat b1b b1c\nx\n\n|bbbbbbbbbbbbccc");
        is("nor blanks ahead behind an item", "- x/a/-/=", "- x\n\n|a");
        is("dashes", "aa-  | bbbbb/aaa  | b/-----+------/=", "|aa-aaa|bbbbbb");
        is("not justified", "a b/cccccccccccc/------------/=", "@set justify 3\n|a b cccccccccccc");
        is("not by indent", "a/-/=", "@set indent 8\n|a");
    }

    private static void rowLines() {
        Desk.says("a row has as many lines as the most of its cells, one at least");
        is("three of the second", "a | bbbb/  | cccc/  | dddd/--+---------/=", "|a|bbbb cccc dddd");
        is("two of the first", "aaaaaaaa | b/cc       |/---------+--/=", "|aaaaaaaa cc|b");
        is("one at least", "a | b/--+--/  |/=", "|a|b\n||");
        is("of each row its own", "a | bbbb/  | cccc/--+---------/d | e/f | gggg/  | hhhh/=", "|a|bbbb cccc\n|d|e\n|f|gggg hhhh");
    }

    private static void aligned() {
        Desk.says("each: parts with blanks to the column's width (left: behind; right: ahead; middle: half, whole part, ahead), with \" | \" "
            + "between; blanks at its end (hard ones, too) go.");
        is("left", "a    | x/-----+--/bbbb | y/=", "|<|<\n|a|x\n|bbbb|y");
        is("right", "   a | x/-----+--/bbbb | y/=", "|>|<\n|a|x\n|bbbb|y");
        is("middle of 3", " a   | x/-----+--/bbbb | y/=", "|^|<\n|a|x\n|bbbb|y");
        is("middle of 2", " a  | x/----+--/bbb | y/=", "|^|<\n|a|x\n|bbb|y");
        is("middle of 1", "a  | x/---+--/bb | y/=", "|^|<\n|a|x\n|bb|y");
        is("each line of a cell", "    bbbb | a/  cccccc |/---------+--/=", "|>|<\n|bbbb cccccc|a");
        is("an empty one", "     | x/-----+--/bbbb | y/=", "|>|<\n||x\n|bbbb|y");
        is("blanks at its end", "a/----/bbbb/=", "|a\n|bbbb");
        is("of several columns", "a |/--+---/b | cc/=", "|a\n|b|cc");
        is("hard ones, too", "a/---/=", "|a\\ \\ ");
        is("behind a part that is right", "  a/----/bbbb/=", "|>\n|a\\ \n|bbbb");
        is("but not those ahead", " a/--/=", "|\\ a");
        is("nor those between", "a  | b/---+--/=", "|a\\ |b");
        is("not those of a line ahead", "a  //-/b/=", ">a  \n|\n|b");
        is("nothing but a hard one", "/-/=", "|\\ ");
        Desk desk = new Desk();
        desk.set(PLAIN + "|*a|_b_\n|*cc*|");
        Desk.same("styles of parts, blanks have none", "100002", desk.styles(0, 0));
        Desk.same("of the next row", "1100", desk.styles(0, 2));
    }

    private static void lineOfDashes() {
        Desk.says("Behind the first row a line: - as many as each column is wide, with -+- between.");
        is("one column", "a/-/b/=", "|a\n|b");
        is("three columns", "a | bb | ccc/--+----+----/=", "|a|bb|ccc");
        is("behind all of the first row's lines", "a | bbbb/  | cccc/--+---------/d |/=", "|a|bbbb cccc\n|d");
        is("behind no other", "a/-/b/c/=", "|a\n|b\n|c");
        is("behind alignment none", "a/-/b/=", "|<\n|a\n|b");
    }

    private static void tablesOfNothing() {
        Desk.says("(A table without rows, or with lines of no cells alone, has none; a line of no cells among others is a row whose cells are all "
            + "empty. It may be wider than wide.)");
        Desk.same("without rows: no gap, too", "a//b/=", Desk.setNew(">a\n\n|<|>\n\n>b"));
        Desk.same("a line of no cells alone", "a//b/=", Desk.setNew(">a\n\n|\n\n>b"));
        Desk.same("lines of no cells alone", "a//b/=", Desk.setNew(">a\n\n|\n|  \n|\n\n>b"));
        Desk.same("behind alignment", "a//b/=", Desk.setNew(">a\n\n|<\n|\n\n>b"));
        is("among others", "a | b/--+--/  |/c | d/=", "|a|b\n|\n|c|d");
        is("ahead of others", "  |/--+--/a | b/=", "|\n|a|b");
        is("behind others", "a/-//=", "|a\n|");
        is("ahead of what would be alignment", "/-/>/=", "|\n|>");
        is("one empty cell is a row", "/-/=", "||");
        is("wider than wide", "a | a | a | a | a/--+---+---+---+--/=", Desk.times("|a", 5));
    }

    private static void worked() {
        Desk.says("Each cell is a TEXT (worked row by row, each parted ahead of them, from the left, no marks)");
        is("row by row, from the left", "1 | 2/--+--/3 | 4/=", "|\\step{a}{1}|\\step{a}{1}\n|\\step{a}{1}|\\step{a}{1}");
        is("each its own text", "fault 2@5", "|a}|{b");
        is("each its own style", "a | b/--+--/=", "|*a|b");
        is("no marks", "fault 6@5", "|a\\label{k}");
        is("no notes", "fault 6@5", "|a\\note{k}");
        is("macros, too", "<a> | x/----+--/=", "@def m 1 <#1>\n|\\m{a}|x");
        is("what isn't there", "fault 3@5", "|a|b\n|c|\\zz");
        Desk desk = new Desk();
        desk.set(PLAIN + "|*a|b\n|c*d|e");
        Desk.same("styles", "100000 010000", desk.styles(0, 0) + " " + desk.styles(0, 2));
    }
}
