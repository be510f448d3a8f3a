/** The edges of part 5: headings, lists, marks, notes, raw lines, contents, the index. */
public final class BlocksEdgeTest {
    private static final String PLAIN = "@set indent 0\n@set justify 0\n@set gap 0\n@set wide 12\n";
    /** Four lines of five are full: the first line of a text is on page 0, the others are on page 1. */
    private static final String PARTED = PLAIN + "@set high 5\n@set keep 0\n>1\n>2\n>3\n>4\n";

    public static void main(String[] args) {
        numbers();
        headingLines();
        titles();
        paragraphs();
        lists();
        markers();
        itemLines();
        whereMarksMayBe();
        marksOfNoSign();
        notesInRows();
        notesAreCarried();
        labelsAreCarried();
        indexMarksAreCarried();
        noteLines();
        noteSettings();
        rawLines();
        contents();
        contentsOfOtherRounds();
        keysInOrder();
        labelsOfKeys();
        indexLines();
        styleOfLines();
        Desk.close();
    }

    private static void is(String what, String due, String text) {
        Desk.same(what, due, Desk.setNew(PLAIN + text));
    }

    private static void numbers() {
        Desk.says("its NUMBER: those of the levels 1 to its, with . between; its own level's grows by one, deeper ones become 0 "
            + "(all 0 as a round begins).");
        is("of each level", "1 a//1.1 a//1.1.1 a/=", "= a\n== a\n=== a");
        is("without those above", "0.0.1 a//0.1 a//0.1.1 a//1 a/=", "=== a\n== a\n=== a\n= a");
        is("deeper ones become 0", "1 a//1.1 a//1.1.1 a//1.2 a//1.2.1 a//2 a//2.0.1 a/=", "= a\n== a\n=== a\n== a\n=== a\n= a\n=== a");
        is("its own alone grows", "1 a//1.1 a//1.2 a//1.3 a/=", "= a\n== a\n== a\n== a");
        Desk desk = new Desk();
        desk.set(Desk.times("= a\n", 12));
        Desk.same("two digits", "12 a", desk.line(0, 22));
        Desk.same("0 as a round begins", 2, desk.room.count(9));
        Desk.same("0 as a set begins", "1 a/=", desk.shown("= a"));
    }

    private static void headingLines() {
        Desk.says("Its words are its number and its TEXT's; all are BOLD besides; filled by way 0, without hyphen points, justify 0, "
            + "FIRST 0, HANG the number's length and 1.");
        is("no words", "1/=", "= ");
        is("no words but blanks", "1/=", "=    {}  ");
        is("HANG", "1 aaaaa bbbb/  ccccc/=", "= aaaaa bbbb ccccc");
        is("HANG of a longer number", "0.0.1 aaaaaa/      bbbbb/=", "=== aaaaaa bbbbb");
        is("ROOM behind HANG", "1 aaaaaaaaaa/  aaaaaaaaaa/  a/=", "= aaaaaaaaaa aaaaaaaaaaa");
        is("no hyphen points", "1 aaaaa/  bbbbccc/=", "@pat b1c\n@word bbbb-ccc\n= aaaaa bbbbccc");
        is("but dashes", "1 aaaaa bbb-/  ccc/=", "= aaaaa bbb-ccc");
        is("not by justify 3", "1 a b/  cccccccccc/=", "@set justify 3\n= a b cccccccccc");
        is("not by justify 1", "1 a/=", "@set justify 1\n= a");
        is("not by indent", "1 a/=", "@set indent 8\n= a");
        Desk desk = new Desk();
        desk.set(PLAIN + "= a*b*_c_*_d*_ e\\ f");
        Desk.same("signs", "1 abcd e f", desk.line(0, 0));
        Desk.same("bold besides; blanks between words are made", "1011330111", desk.styles(0, 0));
    }

    private static void titles() {
        Desk.says("Its TITLE: these words with one blank between (hard blanks are plain ones in it, and in KEYS).");
        Desk desk = new Desk();
        desk.set("@set wide 20\n@set head 1\n=  *a*  \\ b\\ \\ c  ");
        Desk.same("in the head", "1 a  b  c          1", desk.line(0, 0));
        Desk.same("all of style 0", Desk.times("0", 20), desk.styles(0, 0));
        Desk.same("two that differ in a hard blank are the same", "2 1", rounds("= a\\if{\\page{k}}{??}{\\ }{ }b\\label{k}"));
        Desk.same("keys that differ in a hard blank, too", "2 1", rounds("x\\label{k}\\index{a\\if{\\page{k}}{??}{\\ }{ }b}"));
        Desk.same("two that differ in style, too", "2 1", rounds("= \\if{\\page{k}}{??}{*a}{a}\\label{k}"));
        Desk.same("in a sign not", "3 1", rounds("= \\if{\\page{k}}{??}{b}{a}\\label{k}"));
    }

    private static String rounds(String text) {
        Desk desk = new Desk();
        Desk.same(text, 0, desk.set(text));
        return desk.room.count(9) + " " + desk.room.count(10);
    }

    private static void paragraphs() {
        Desk.says("A PARAGRAPH: by the settings, FIRST indent, HANG 0.");
        is("indent", "    aaaa bbb/ccc/=", "@set indent 4\naaaa bbb ccc");
        is("one that comes to nothing has no lines", "a/b/=", "a\n\n{}\\rep{0}{x}\n\nb");
        is("nor has one of blanks", "a/b/=", "a\n\n{ }\n\nb");
    }

    private static void lists() {
        Desk.says("ITEMS one right behind the other (no empty line, nothing else between) are a LIST; an item's DEPTH d is half of its "
            + "blanks; each depth of a list counts its items with # (0 as the list begins; deeper ones become 0 again with each item).");
        is("an empty line", "1. a/1. b/=", "# a\n\n# b");
        is("a line of blanks", "1. a/1. b/=", "# a\n  \n# b");
        is("a directive", "1. a/1. b/=", "# a\n@set keep 1\n# b");
        is("a paragraph", "1. a/b/1. c/=", "# a\nb\n# c");
        is("a heading", "1. a//1 b/1. c/=", "# a\n= b\n# c");
        is("a raw line", "1. a/b/1. c/=", "# a\n>b\n# c");
        is("a table", "1. a/b/-/1. c/=", "# a\n|b\n# c");
        is("lines of an item are none between", "1. a b/2. c/=", "# a\n b\n# c");
        is("- among them", "1. a/- b/2. c/=", "# a\n- b\n# c");
        is("each depth", "1. a/  a) b/    i. c/    ii. d/  b) e/2. f/=", "# a\n  # b\n    # c\n    # d\n  # e\n# f");
        is("deeper ones become 0", "  a) a/    i. b/1. c/    i. d/  a) e/=", "  # a\n    # b\n# c\n    # d\n  # e");
        is("with an item of -, too", "  a) a/    i. b/  * c/    i. d/  b) e/=", "  # a\n    # b\n  - c\n    # d\n  # e");
        is("a deep one begins", "    i. a/    ii. b/  a) c/=", "    # a\n    # b\n  # c");
        is("a deep one behind one further out", "    i. a/1. b/    i. c/=", "    # a\n# b\n    # c");
        Desk desk = new Desk();
        desk.set(PLAIN + "# a\n# b\\label{k}\n= h");
        Desk.same("in each round anew", "2. b", desk.line(0, 1));
    }

    private static void markers() {
        Desk.says("MARKER: of - by depth - * + ; of # the count: digits and . , system 4 and ), system 2 and . .");
        is("of -", "- a/  * a/    + a/=", "- a\n  - a\n    - a");
        is("of #", "1. a/  a) a/    i. a/=", "# a\n  # a\n    # a");
        Desk desk = new Desk();
        desk.set(PLAIN + "@set high 60\n" + Desk.times("# a\n", 11));
        Desk.same("digits", "9. a 10. a", desk.line(0, 8) + " " + desk.line(0, 9));
        desk.set(PLAIN + "@set high 60\n" + Desk.times("  # a\n", 27));
        Desk.same("letters", "  z) a   aa) a", desk.line(0, 25) + " " + desk.line(0, 26));
        desk.set(PLAIN + "@set high 60\n" + Desk.times("    # a\n", 9));
        Desk.same("roman", "    iv. a     ix. a", desk.line(0, 3) + " " + desk.line(0, 8));
    }

    private static void itemLines() {
        Desk.says("An item is filled by the settings with 2 * d and the marker's length and 1 for FIRST and HANG; in its first line the "
            + "marker (style 0) stands at 2 * d in place of blanks (one without words has the marker alone).");
        is("depth 0", "- aaaaa bbbb/  cccc/=", "- aaaaa bbbb cccc");
        is("depth 1", "  * aaa bbbb/    cccc/=", "  - aaa bbbb cccc");
        is("depth 2", "    + a bbbb/      cccc/=", "    - a bbbb cccc");
        is("a longer marker", "1. aaaa bbbb/   cccc/=", "# aaaa bbbb cccc");
        is("indent doesn't matter", "- a/=", "@set indent 8\n- a");
        is("by the settings", "-       aaaa/=", "@set justify 1\n- aaaa");
        is("hyphen points, too", "- aaaaa bbb-/  ccc/=", "@pat b1c\n- aaaaa bbbccc");
        is("no words", "-/1./  */  a)/    +/    i./=", "- \n# \n  - \n  # {}\n    - \n    # \\rep{0}{x}");
        is("no words, justified", "-/=", "@set justify 1\n- ");
        Desk desk = new Desk();
        desk.set(PLAIN + "  # *a");
        Desk.same("the marker's style", "000001", desk.styles(0, 0));
    }

    private static void fails(String due, String text) {
        Desk.same(text, "fault " + due, Desk.setNew(text));
    }

    private static void whereMarksMayBe() {
        Desk.says("MARKS may be in PARAGRAPHS, ITEMS and, but for notes, in HEADINGS: in their TEXT itself, in groups, BODIES, if's third "
            + "and fourth there, not in arguments (6 else;");
        for (String mark : new String[] {"\\label{k}", "\\index{k}", "\\note{k}"}) {
            for (String text : new String[] {"x?", "x{?}", "x{{?}}", "x\\if{}{}{?}{}", "x\\if{}{a}{}{?}", "- x?", "- {x?}", "x\\m"}) {
                Desk.same(text + mark, 0, new Desk().set("@def m 0 " + mark + "\n" + text.replace("?", mark)));
            }
            for (String text : new String[] {"x\\up{?}", "x\\if{?}{}{}{}", "x\\if{}{?}{}{}", "x\\one{?}", "x\\up{{?}}", "x\\up{\\m}",
                "x\\up{\\if{}{}{?}{}}", "x\\note{?}", "x\\index{?}", "x\\label{?}", "|?", "|x{?}", "= \\up{?}"}) {
                Desk.same(text + mark, 6 + 16 * 3, new Desk().set("@def m 0 " + mark + "\n@def one 1 x\n" + text.replace("?", mark)));
            }
            boolean note = mark.startsWith("\\note");
            Desk.same("heading " + mark, note ? 6 + 16 : 0, new Desk().set("= x" + mark));
            Desk.same("heading's group " + mark, note ? 6 + 16 : 0, new Desk().set("= {x" + mark + "}"));
            Desk.same("what isn't worked has none", 0, new Desk().set("x\\if{}{}{}{" + mark + mark + "}"));
            Desk.same("nor has a raw line", 0, new Desk().set(">" + mark));
        }
    }

    private static void marksOfNoSign() {
        Desk.says("also in a block that comes to no sign but blanks, as its TEXT is worked, ahead of its lines; a heading's number is in its "
            + "row from the beginning).");
        fails("6@1", "\\label{k}");
        fails("6@1", "\\index{k}");
        fails("6@1", "{ }\\label{k} ");
        fails("6@1", "\\ \\label{k}\\ ");
        fails("6@1", "- \\label{k}");
        fails("6@1", "# \\index{k}\\ ");
        fails("3@1", "\\label{k}\\zz");
        fails("2@1", "\\label{k}}");
        Desk.same("a sign behind it", 0, new Desk().set("\\label{k}x"));
        Desk.same("a sign ahead of it", 0, new Desk().set("x\\label{k}"));
        Desk.same("a heading's number", 0, new Desk().set("= \\label{k}\\index{k}"));
        Desk.same("a note's signs", 0, new Desk().set("\\label{k}\\note{}"));
        Desk.same("no mark, no fault", 0, new Desk().set("\\ "));
        String full = "@set high 60\n" + Desk.times(">\n", 1500);
        fails("6@1502", full + "- \\label{k}");
        fails("9@1502", full + "- ");
        Desk desk = new Desk();
        desk.spend(400000 - (1 + 15 + 20 + 5 + 1));
        Desk.same("ahead of its lines' work", 6 + 16, desk.set("- \\label{k}"));
    }

    private static void notesInRows() {
        Desk.says("note: NOTE k (from 1 on) is T; [, k in digits, ] come to the row");
        is("from 1 on, block by block", "a[1]b[2]/c[3]/", "a\\note{x}b\\note{y}\n\nc\\note{z}", 2);
        Desk desk = new Desk();
        desk.set("@set wide 60\n" + Desk.times("\\note{}", 11) + "\\label{k}");
        Desk.same("two digits", "  [1][2][3][4][5][6][7][8][9][10][11]", desk.line(0, 0));
        Desk.same("from 1 on in each round", 2, desk.room.count(9));
        Desk.same("how many", 11, desk.room.count(4));
        desk.set(PLAIN + "a*b\\note{}_\\note{*x}");
        Desk.same("style at hand", "01111333", desk.styles(0, 0));
    }

    /** The first lines of page 0 alone. */
    private static void is(String what, String due, String text, int lines) {
        Desk desk = new Desk();
        desk.set(PLAIN + text);
        StringBuilder got = new StringBuilder();
        for (int i = 0; i < lines; i++) {
            got.append(desk.line(0, i)).append('/');
        }
        Desk.same(what, due, got.toString());
    }

    private static void notesAreCarried() {
        Desk.says("and the ] CARRIES it.");
        Desk desk = new Desk();
        Desk.same("kept together", "1/2/3/4/=aaaaaaaaaaa[/1]//----------/1. n/=",
            desk.shown(PARTED + "@set keep 2\naaaaaaaaaaa\\note{n}"));
        Desk.same("the ] is in the second line", "1/2/3/4/aaaaaaaaaaa[/=1]///----------/1. n/=", desk.shown(PARTED + "aaaaaaaaaaa\\note{n}"));
        Desk.same("the ] alone is in the second line", "1/2/3/4/aaaaaaaaaa[1/=]///----------/1. n/=", desk.shown(PARTED + "aaaaaaaaaa\\note{n}"));
        Desk.same("in the first line there is no room", "1/2/3/4/=aaaaaaaaa[1]/bbb//----------/1. n/=", desk.shown(PARTED + "aaaaaaaaa\\note{n} bbb"));
        Desk.same("one of each line", "1/2/a[1]/----------/1. n/=bbbbbbbbb[2]///----------/2. m/=",
            desk.shown(PARTED.replace(">3\n>4\n", "") + "a\\note{n} bbbbbbbbb\\note{m}"));
        Desk.same("of the third line", "1/2/aaaaaaaaaa/bbbbbbbbbb/=cccccccc[1]///----------/1. n/=",
            desk.shown(PARTED.replace(">3\n>4\n", "") + "aaaaaaaaaa bbbbbbbbbb cccccccc\\note{n}"));
    }

    private static int page(Desk desk, String key) {
        desk.feed(key);
        return desk.room.labelled();
    }

    private static void carried(String what, String due, String text) {
        Desk desk = new Desk();
        Desk.same(text, 0, desk.set(PARTED + text));
        StringBuilder got = new StringBuilder();
        for (String key : "a b c".split(" ")) {
            got.append(page(desk, key)).append(' ');
        }
        Desk.same(what, due, got.toString().trim());
    }

    private static void labelsAreCarried() {
        Desk.says("label, index are CARRIED by the last sign but blanks (hard ones, too) that is in the row by then, else by the first one "
            + "that comes. The line that has a sign has what it carries.");
        carried("by the last sign", "0 1 1", "xxxxxxxxxx\\label{a} yyyyyyyyyy\\label{b} z\\label{c}");
        carried("blanks carry none", "0 0 1", "xxxxxxxxxx  \\label{a}  \\label{b} y\\label{c}yyyyyyyyy");
        carried("hard ones, too", "0 0 0", "xxxxxxxxxx\\ \\label{a}\\ \\label{b} {\\ } \\label{c}yyyyyyyyyy");
        carried("else by the first that comes", "0 0 1", "\\label{a}{\\label{b}} xxxxxxxxxx y\\label{c}yyyyyyyyyy");
        carried("a first sign alone in its line", "0 1 1", "\\label{a}x yyyyyyyyyyyy\\label{b} z\\label{c}");
        carried("a hard blank alone in the first line", "1 1 1", "\\ \\label{a} xxxxxxxxxxxx\\label{b} y\\label{c}");
        carried("a word that is cut", "0 0 1", "xxxxxxxxxxx\\label{a}x\\label{b}x\\label{c}x");
        carried("a word that is parted", "0 1 1", "@pat x1y\nxxxxxxxxxx\\label{a}y\\label{b}yyyyyy\\label{c}");
        carried("in an item", "0 1 1", "- xxxxxxxx\\label{a} yyyyyyyy\\label{b} z\\label{c}");
        carried("a row of its own doesn't count", "0 1 1", "xxxxxxx\\label{a} yyyyyyyyy\\up{yyy}\\label{b}\\label{c}");
        Desk desk = new Desk();
        desk.set(PARTED.replace(">4\n", "") + "= xxxxxxxxx\\label{a} yyyyyyyyyy\\label{b}");
        Desk.same("a heading", "1 1", page(desk, "a") + " " + page(desk, "b"));
        desk.set(PLAIN + "@set high 5\n= " + Desk.times("xxxxxxxxx ", 5) + "\\label{a}" + "xxxxxxxxx\\label{b}");
        Desk.same("a heading of six lines", "0 1", page(desk, "a") + " " + page(desk, "b"));
        desk.set(PLAIN + "@set high 5\n= \\label{a}" + Desk.times("xxxxxxxxx ", 6) + "\\label{b}");
        Desk.same("a heading's number", "0 1", page(desk, "a") + " " + page(desk, "b"));
    }

    private static void indexMarksAreCarried() {
        String index = "\n@page\n@index";
        Desk desk = new Desk();
        desk.set(PARTED + "xxxxxxxxxx\\index{a} yyyyyyyyyy\\index{b} z" + index);
        Desk.same("by the last sign", "a, 1/b, 2/", desk.page(2));
        desk.set(PARTED + "\\index{a}xxxxxxxxxx\\ \\index{b} yyyyyyyyyy\\index{c}" + index);
        Desk.same("else by the first that comes; hard blanks carry none", "a, 1/b, 1/c, 2/", desk.page(2));
        desk.set(PARTED + "\\ \\index{a} xxxxxxxxxxxx\\index{b}" + index);
        Desk.same("a hard blank alone in the first line", "a, 2/b, 2/", desk.page(2));
        desk.set(PARTED + "\\index{a}x yyyyyyyyyyyy\\index{b}" + index);
        Desk.same("a first sign alone in its line", "a, 1/b, 2/", desk.page(2));
        desk.set(PARTED + ">5\n\\index{a}xxxxxxxxxx\\index{b}" + index);
        Desk.same("on page 1", "a, 2/b, 2/", desk.page(2));
        Desk.says("index T: its words (5: none).");
        fails("5@1", "x\\index{}");
        fails("5@1", "x\\index{  }");
        fails("5@1", "x\\index{\\rep{0}{a}}");
        Desk.same("a hard blank is one", 0, desk.set("x\\index{\\ }"));
        Desk.same("a key of it", 1, desk.room.count(6));
    }

    private static String foot(String text) {
        Desk desk = new Desk();
        String shown = desk.shown("@set high 9\n" + text);
        return shown.startsWith("fault") ? shown : shown.substring(shown.indexOf("----------/") + 11);
    }

    private static void noteLines() {
        Desk.says("NOTES' lines: T's words by way 0, hyphen points by the settings of its block, wide likewise, justify 0, FIRST and HANG the "
            + "length of k's digits and 2; the first line has these, . and a blank there (without words: these and . alone).");
        Desk.same("HANG", "1. aaaa bbbb/   cccc/=", foot(PLAIN + "x\\note{aaaa bbbb cccc}"));
        Desk.same("words alone", "1. a b/=", foot(PLAIN + "x\\note{  a   b  }"));
        Desk.same("without words", "1./=", foot(PLAIN + "x\\note{}"));
        Desk.same("of blanks alone", "1./=", foot(PLAIN + "x\\note{   }"));
        Desk.same("a hard blank is a word", "1.  /=", foot(PLAIN + "x\\note{\\ }"));
        Desk.same("cut", "1. aaaaaaaaa/   aa/=", foot(PLAIN + "x\\note{aaaaaaaaaaa}"));
        Desk.same("dashes", "1. aaaa bbb-/   ccc/=", foot(PLAIN + "x\\note{aaaa bbb-ccc}"));
        Desk.same("hyphen points", "1. aaaa bbb-/   ccc/=", foot(PLAIN + "@pat b1c\nx\\note{aaaa bbbccc}"));
        Desk.same("with hyph 0 none", "1. aaaa/   bbbccc/=", foot(PLAIN + "@set hyph 0\n@pat b1c\nx\\note{aaaa bbbccc}"));
        Desk.same("justify 0", "1. a b/   ccccccccc/=", foot(PLAIN + "@set justify 3\nx\\note{a b ccccccccc}"));
        Desk.same("justify 0, not 1", "1. a/=", foot(PLAIN + "@set justify 1\nx\\note{a}"));
        Desk.same("indent doesn't matter", "1. a/=", foot(PLAIN + "@set indent 8\nx\\note{a}"));
        Desk.same("an item's", "1. a/=", foot(PLAIN + "    - x\\note{a}"));
        Desk desk = new Desk();
        desk.set(PLAIN + "@set high 30\n" + Desk.times("\\note{}", 9) + "\\note{aaaa bbb cccc}");
        int last = desk.room.lines(0) - 1;
        Desk.same("of two digits", "9./10. aaaa bbb/    cccc",
            desk.line(0, last - 2) + "/" + desk.line(0, last - 1) + "/" + desk.line(0, last));
        desk.set(PLAIN + "@set high 5\nx*\\note{a _b_}");
        Desk.same("its number has style 0", "000" + "1" + "0" + "3", desk.styles(0, 4));
        desk.set(PLAIN + "@set high 7\n@pat b1c\nx*\\note{aaaa bbbcccc}");
        Desk.same("a - that is put has the style ahead", "000" + "1111" + "0" + "1111", desk.styles(0, 5));
        Desk.same("it counts", 1, desk.room.count(8));
    }

    private static void noteSettings() {
        Desk.same("wide of its block", "1. aaaaaaaaa/   aaa/2. aaaaaaaaaaaa/=",
            foot(PLAIN + "x\\note{aaaaaaaaaaaa}\n@set wide 20\ny\\note{aaaaaaaaaaaa}\n@set wide 30"));
        Desk.same("hyph of its block", "1. aaaa bbb-/   ccc/2. aaaa/   bbbccc/=",
            foot(PLAIN + "@pat b1c\nx\\note{aaaa bbbccc}\n@set hyph 0\ny\\note{aaaa bbbccc}\n@set hyph 1"));
        Desk.same("each note its own letters: left", "1. b/2. cdddddddd/   dd/=", foot(PLAIN + "@pat c1d\nx\\note{b}\\note{cdddddddddd}"));
        Desk.same("each note its own letters: right", "1. aaa/   bbccdd/2. x/=",
            foot(PLAIN + "@set right 3\n@pat c1d\nx\\note{aaa bbccdd}\\note{x}"));
        Desk.same("each note its own words", "1. aaaaaaaaa/2. bbbbbbbbb/=", foot(PLAIN + "x\\note{aaaaaaaaa}\\note{bbbbbbbbb}"));
        Desk.same("patterns of its block", "1. aaaa/   bbbccc/2. aaaa bbb-/   ccc/=",
            foot(PLAIN + "x\\note{aaaa bbbccc}\n@pat b1c\ny\\note{aaaa bbbccc}"));
    }

    private static void rawLines() {
        Desk.says("RAW lines: what is behind the >, at most wide signs of it.");
        is("nothing", "/=", ">");
        is("as it is", " a  *b_ \\{/=", "> a  *b_ \\{");
        is("12", "123456789012/=", ">123456789012");
        is("13", "123456789012/=", ">1234567890123");
        is("blanks at its end stay", "a   /=", ">a   ");
        is("a second >", ">a/=", ">>a");
    }

    private static void contents() {
        Desk.says("@toc: each HEADING of the round before: 2 blanks for each level above 1 and its TITLE, of these as many signs as wide less 3 "
            + "and less the length of its page's LABEL (0 at least), a blank, as many . as fill the line (one at least), a blank, the LABEL.");
        Desk desk = new Desk();
        desk.set("@set wide 20\n@toc\n= a\n== b\n=== c");
        Desk.same("1", "1 a .............. 1", desk.line(0, 0));
        Desk.same("2", "  1.1 b .......... 1", desk.line(0, 1));
        Desk.same("3", "    1.1.1 c ...... 1", desk.line(0, 2));
        desk.set(PLAIN + "@toc\n= abcde\n= abcdef\n= abcdefg");
        Desk.same("two .", "1 abcde .. 1", desk.line(0, 0));
        Desk.same("one .", "2 abcdef . 1", desk.line(0, 1));
        Desk.same("cut, one .", "3 abcdef . 1", desk.line(0, 2));
        desk.set(PLAIN + "@set first 38\n@set system 2\n@toc\n= abc");
        Desk.same("a longer label", "1  . xxxviii", desk.line(0, 0));
        Desk.same("its length", 12, desk.room.length(0, 0));
        desk.set(PLAIN + "@set first 88\n@set system 2\n@toc\n=== abc");
        Desk.same("one sign", "  . lxxxviii", desk.line(0, 0));
        desk.set(PLAIN + "@set first 188\n@set system 2\n@toc\n= abc");
        Desk.same("0 signs", " . clxxxviii", desk.line(0, 0));
        desk.set(PLAIN + "@set first 288\n@set system 2\n@toc\n= abc");
        Desk.same("wider than wide", " . cclxxxviii", desk.line(0, 0));
        desk.set(PLAIN + "@set first 888\n@set system 2\n@toc\n= abc");
        Desk.same("0 at least", " . dccclxxxviii", desk.line(0, 0));
        desk.set(PLAIN + "@toc\n= a b\\ cd*e*fgh");
        Desk.same("a blank at the cut stays", "1 a b cd . 1", desk.line(0, 0));
        desk.set(PLAIN + "@toc\n= a bcd efgh");
        Desk.same("a blank at its end", "1 a bcd  . 1", desk.line(0, 0));
    }

    private static void contentsOfOtherRounds() {
        Desk desk = new Desk();
        desk.set("@set high 5\n@set wide 20\n@set gap 0\n@toc\n= a\n@page\n= b");
        Desk.same("pages of the last round but one", "1 a .............. 1/2 b .............. 2//1 a/=2 b/=", desk.proof());
        Desk.same("no headings, no lines", "x/=", desk.shown(PLAIN + "@toc\nx"));
        Desk.same("no lines, no gap", "a//b/=", desk.shown(">a\n@toc\n>b"));
        Desk.same("origin", 0, desk.set("\n@toc\n= a"));
        Desk.same("its line", 2, desk.room.origin(0, 0));
        Desk.same("twice", "1 a ...... 1/1 a ...... 1//1 a/=", desk.shown(PLAIN + "@toc\n@toc\n= a"));
        Desk.same("wide at hand", "1 a .............. 1/1 a ...... 1//1 a/=",
            desk.shown("@set gap 0\n@set wide 20\n@toc\n@set wide 12\n@toc\n= a"));
    }

    private static String index(String marks) {
        Desk desk = new Desk();
        desk.set("@set wide 60\nx" + marks + "\n@page\n@index");
        return desk.room.pages() < 2 ? "none" : desk.page(1);
    }

    private static void keysInOrder() {
        Desk.says("@index: each KEY (signs of an index mark, its words with one blank between) of the round before once, in order (great letters "
            + "as small ones, by codes, the shorter first; then by codes as they are)");
        Desk.same("once", "a, 1/", index("\\index{a}\\index{a}\\index{ a }"));
        Desk.same("words with one blank between", "a b, 1/", index("\\index{a  b}\\index{  a b }\\index{a\\ b}"));
        Desk.same("by codes", "!, 1/1, 1/a, 1/b, 1/~, 1/", index("\\index{~}\\index{b}\\index{1}\\index{a}\\index{!}"));
        Desk.same("great as small", "a, 1/B, 1/c, 1/", index("\\index{c}\\index{B}\\index{a}"));
        Desk.same("a sign between the alphabets", "[, 1/_, 1/`, 1/A, 1/b, 1/", index("\\index{b}\\index{A}\\index{`}\\index{[}\\index{\\_}"));
        Desk.same("the shorter first", "a, 1/aa, 1/ab, 1/b, 1/", index("\\index{b}\\index{ab}\\index{aa}\\index{a}"));
        Desk.same("the shorter first, great or small", "A, 1/a, 1/AA, 1/aa, 1/", index("\\index{aa}\\index{a}\\index{AA}\\index{A}"));
        Desk.same("then by codes", "AB, 1/Ab, 1/aB, 1/ab, 1/", index("\\index{ab}\\index{aB}\\index{Ab}\\index{AB}"));
        Desk.same("the first that differs counts", "aB, 1/ab, 1/Ac, 1/", index("\\index{Ac}\\index{ab}\\index{aB}"));
        Desk.same("a blank is ahead of letters", "a b, 1/ab, 1/", index("\\index{ab}\\index{a b}"));
        Desk.same("styles don't matter", "a, 1/", index("\\index{*a}\\index{_a}"));
        Desk desk = new Desk();
        desk.set("x\\index{a}\\index{A}\\index{a}");
        Desk.same("keys", 2, desk.room.count(6));
        Desk.same("no keys, no lines", "x/=", desk.shown(PLAIN + "x\n@index"));
        Desk.same("no lines, no gap", "a//b/=", desk.shown(">a\n@index\n>b"));
    }

    private static String indexOfPages(String rules, boolean[] there) {
        StringBuilder text = new StringBuilder("@set wide 60\n" + rules);
        for (boolean one : there) {
            text.append("x").append(one ? "\\index{k}" : "").append("\n@page\n");
        }
        Desk desk = new Desk();
        desk.set(text + "@index");
        return desk.line(there.length, 0);
    }

    private static void labelsOfKeys() {
        Desk.says("the key, a comma, and the LABELS of its pages, each once, rising, \", \" between; three and more of pages one behind the other: "
            + "the first, -, the last");
        boolean o = false;
        boolean x = true;
        Desk.same("one", "k, 2", indexOfPages("", new boolean[] {o, x, o}));
        Desk.same("two", "k, 1, 2", indexOfPages("", new boolean[] {x, x, o}));
        Desk.same("three", "k, 1-3", indexOfPages("", new boolean[] {x, x, x}));
        Desk.same("four", "k, 2-5", indexOfPages("", new boolean[] {o, x, x, x, x}));
        Desk.same("two and one", "k, 1, 2, 4", indexOfPages("", new boolean[] {x, x, o, x}));
        Desk.same("one and two", "k, 1, 3, 4", indexOfPages("", new boolean[] {x, o, x, x}));
        Desk.same("three, two, three, one", "k, 1-3, 5, 6, 8-10, 12",
            indexOfPages("", new boolean[] {x, x, x, o, x, x, o, x, x, x, o, x}));
        Desk.same("every other", "k, 1, 3, 5", indexOfPages("", new boolean[] {x, o, x, o, x}));
        Desk.same("labels", "k, ix-xi, xiii", indexOfPages("@set first 9\n@set system 2\n", new boolean[] {x, x, x, o, x}));
        Desk desk = new Desk();
        desk.set("@set wide 60\nx\\index{k}\\index{k}\n\ny\\index{k}\n@page\nz\\index{k}\\index{k}\n@page\n@index");
        Desk.same("each once", "k, 1, 2", desk.line(2, 0));
    }

    private static void indexLines() {
        Desk.says("filled by way 0 (its words), no hyphen points, justify 0, FIRST 0, HANG 2.");
        is("HANG 2", "x/aaaa bbbb/  cccc, 1/=", "x\\index{aaaa bbbb cccc}\n@index");
        is("ROOM behind HANG", "x/aaaaaaaaaaaa/  bbbbbbbbbb/  b, 1/=", "x\\index{aaaaaaaaaaaa bbbbbbbbbb b}\n@index");
        is("no hyphen points", "x/aaaaaa/  bbbbcc, 1/=", "x\\index{aaaaaa bbbbcc}\n@pat b1c\n@index");
        is("but dashes", "x/aaaaaa bbb-/  cc, 1/=", "x\\index{aaaaaa bbb-cc}\n@index");
        is("justify 0", "x/a b/  ccccccccc,/  1/=", "x\\index{a b ccccccccc}\n@set justify 3\n@index");
        is("justify 0, not 1", "x/a, 1/=", "x\\index{a}\n@set justify 1\n@index");
        is("indent doesn't matter", "x/a, 1/=", "x\\index{a}\n@set indent 8\n@index");
        is("by way 0", "x/aaaa bbb cc/  ddddd/  eeeeeee, 1/=", "@set fill 1\nx\\index{aaaa bbb cc ddddd eeeeeee}\n@index");
        Desk desk = new Desk();
        desk.set("\n@index\nx\\index{a}\\index{b}");
        Desk.same("origins", "2 2 0 3", desk.origins(0));
    }

    private static void styleOfLines() {
        Desk.says("These lines have style 0 (RAW, the line of -, heads, too).");
        Desk desk = new Desk();
        desk.set(PLAIN + "@set head 1\n= *a*\n@toc\n@index\n|*b\n>*c\nd\\index{*e}");
        Desk.same("lines", "1 a        1//1 a/1 a ...... 1/e, 1/b/-/*c/d/=", desk.proof());
        int[] plain = {0, 3, 4, 6, 7};
        for (int line : plain) {
            Desk.same("styles of " + desk.line(0, line), Desk.times("0", desk.room.length(0, line)), desk.styles(0, line));
        }
        Desk.same("a heading, a cell", "101 1", desk.styles(0, 2) + " " + desk.styles(0, 5));
        desk.set(PLAIN + "@set high 5\n*a\\note{b}");
        Desk.same("the line ahead of notes", "0000000000", desk.styles(0, 3));
    }
}
