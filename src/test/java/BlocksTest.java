/** Part 5: headings, lists, marks, notes, tables, raw lines, contents, index; promise 15. */
public final class BlocksTest {
    private static final String PLAIN = "@set indent 0\n@set justify 0\n@set gap 0\n@set wide 20\n";

    public static void main(String[] args) {
        headings();
        lists();
        markers();
        marks();
        wrongMarks();
        notes();
        tables();
        tableCells();
        tableFaults();
        raw();
        contents();
        index();
        origins();
        Desk.close();
    }

    private static void headings() {
        Desk.same("numbers", "1 a//1.1 b//1.1.1 c//1.1.2 d//1.2 e//2 f//2.0.1 g/=",
            Desk.setNew("= a\n== b\n=== c\n=== d\n== e\n= f\n=== g"));
        Desk.same("0 of what is missing", "0.1 a//0.1.1 b/=", Desk.setNew("== a\n=== b"));
        Desk.same("hang", "1 aaaaaa bb/  cccccccc/=", Desk.setNew("@set wide 12\n= aaaaaa bb cccccccc"));
        Desk.same("no hyphen points, but dashes", "1 aaaaa bb-/  bbbb/=",
            Desk.setNew("@set wide 12\n@pat b1b\n= aaaaa bb-bbbb"));
        Desk.same("not justified", "1 a b/  cccccccccc/=", Desk.setNew("@set wide 12\n= a b cccccccccc"));
        Desk desk = new Desk();
        desk.set("= a _b_\\ *c* d");
        Desk.same("bold besides", "101031101", desk.styles(0, 0));
        Desk.same("headings", 1, desk.room.count(5));
        Desk.same("60", 0, desk.set(Desk.times("= a\n", 60)));
        Desk.same("61", 9 + 16 * 61, desk.set(Desk.times("= a\n", 61)));
    }

    private static void lists() {
        Desk.same("depths", "- a/  * b/    + c/- d/=", Desk.setNew(PLAIN + "- a\n  - b\n    - c\n- d"));
        Desk.same("counts", "1. a/  a) b/  b) c/    i. d/    ii. e/  c) f/2. g/  a) h/=",
            Desk.setNew(PLAIN + "# a\n  # b\n  # c\n    # d\n    # e\n  # f\n# g\n  # h"));
        Desk.same("a - begins deeper ones anew", "1. a/  a) b/- c/  a) d/2. e/=",
            Desk.setNew(PLAIN + "# a\n  # b\n- c\n  # d\n# e"));
        Desk.same("an empty line ends a list", "1. a/1. b/=", Desk.setNew(PLAIN + "# a\n\n# b"));
        Desk.same("a directive, too", "1. a/1. b/=", Desk.setNew(PLAIN + "# a\n@set keep 1\n# b"));
        Desk.same("a text, too", "1. a/x/1. b/=", Desk.setNew(PLAIN + "# a\nx\n# b"));
        Desk.same("what begins with a blank is of the item", "1. a x/2. b/=", Desk.setNew(PLAIN + "# a\n x\n# b"));
        Desk.same("hang", "1. aaaaa bbbbb ccccc/   ddddd/=", Desk.setNew(PLAIN + "# aaaaa bbbbb ccccc ddddd"));
        Desk.same("without words", "-/  */1./=", Desk.setNew(PLAIN + "- \n  - \n# \\rep{0}{x}"));
    }

    private static void markers() {
        StringBuilder due = new StringBuilder();
        for (int i = 1; i <= 30; i++) {
            due.append(i).append(". x/");
        }
        Desk.same("digits", due + "=", Desk.setNew(PLAIN + "@set high 60\n" + Desk.times("# x\n", 30)));
        Desk desk = new Desk();
        desk.set(PLAIN + "@set high 60\n" + Desk.times("  # *x\n", 28));
        Desk.same("letters", "  ab) x", desk.line(0, 27));
        Desk.same("marker's style", "00000" + "0" + "1", desk.styles(0, 27));
        desk.set(PLAIN + "@set high 60\n" + Desk.times("    # x\n", 9));
        Desk.same("roman", "    ix. x", desk.line(0, 8));
    }

    private static void marks() {
        Desk desk = new Desk();
        String lines = "@set high 5\n@set gap 0\n@set keep 0\n@set indent 0\n@set wide 12\n";
        desk.set(lines + "> 1\n> 2\n> 3\n> 4\naaaaaaaaaa \\label{k}bbbbbbbbbb\\label{m}");
        Desk.same("by the last sign ahead", "0 1", page(desk, "k") + " " + page(desk, "m"));
        desk.set(lines + "> 1\n> 2\n> 3\n> 4\n> 5\n\\label{k}aaaaaaaaaa\\ \\label{m} bbbbbbbbbb");
        Desk.same("else by the first that comes; hard blanks carry none", "1 1", page(desk, "k") + " " + page(desk, "m"));
        desk.set(lines + "> 1\n> 2\n> 3\n> 4\n{\\if{a}{a}{aaaaaaaaaa}{}} \\label{k}\\label{m}bbbbbbbbbb\\label{n}");
        Desk.same("in groups and choices", "0 0 1", page(desk, "k") + " " + page(desk, "m") + " " + page(desk, "n"));
        desk.set("@def l 1 \\label{#1}\nx\\l{q}");
        Desk.same("in bodies", 0, page(desk, "q"));
        desk.set("= \\label{h}\\index{i}");
        Desk.same("a heading's number carries", 0, page(desk, "h"));
        Desk.same("60 labels", 0, desk.set(labels(60)));
        Desk.same("61 labels", 9 + 16, desk.set(labels(61)));
        Desk.same("twice, ahead of too many", 10 + 16, desk.set(labels(60) + "\\label{l0}"));
        Desk.same("twice", 10 + 16 * 3, desk.set("a\\label{a}\n\nb\\label{A}\\label{a}"));
        Desk.same("100 index marks", 0, desk.set("x" + Desk.times("\\index{a}", 100)));
        Desk.same("101", 9 + 16, desk.set("x" + Desk.times("\\index{a}", 101)));
        Desk.same("no words, ahead of too many", 5 + 16, desk.set("x" + Desk.times("\\index{a}", 100) + "\\index{ }"));
    }

    private static String labels(int many) {
        StringBuilder text = new StringBuilder("x");
        for (int i = 0; i < many; i++) {
            text.append("\\label{l").append(i).append('}');
        }
        return text.toString();
    }

    private static int page(Desk desk, String key) {
        desk.feed(key);
        return desk.room.labelled();
    }

    private static void wrongMarks() {
        int mark = 6 + 16;
        Desk desk = new Desk();
        Desk.same("a note in a heading", mark, desk.set("= x\\note{a}"));
        Desk.same("in an argument", mark, desk.set("x\\up{\\label{a}}"));
        Desk.same("in a macro's argument", mark + 16, desk.set("@def b 1 #1\nx\\b{\\index{a}}"));
        Desk.same("in a note", mark, desk.set("x\\note{\\label{a}}"));
        Desk.same("in a body in an argument", mark + 16, desk.set("@def b 0 \\label{a}\nx\\up{\\b}"));
        Desk.same("in a table", mark, desk.set("|x\\label{a}|"));
        Desk.same("no sign", mark, desk.set("\\label{a}"));
        Desk.same("no sign but blanks", mark, desk.set("\\label{a}\\ \\ "));
        Desk.same("nor in an item", mark, desk.set("- \\index{a}"));
        Desk.same("as its name is read", mark, desk.set("= x\\note"));
        Desk.same("but the unknown first", 3 + 16, desk.set("= x\\notes{a}"));
        Desk.same("no key", 5 + 16, desk.set("x\\label{}"));
        Desk.same("no key of 13", 5 + 16, desk.set("x\\label{abcdefghijklm}"));
        Desk.same("a key of 12", 0, desk.set("x\\label{abcdefghijk1}"));
    }

    private static void notes() {
        Desk desk = new Desk();
        String high = "@set high 8\n";
        Desk.same("at the foot", "a[1] b[2]./////----------/1. one/2. two/=", Desk.setNew(PLAIN + high + "a\\note{one} b\\note{two}."));
        Desk.same("hang", "x[1]/////----------/1. aaaaaaaa bbbbbbbb/   cc/=",
            Desk.setNew(PLAIN + high + "x\\note{aaaaaaaa bbbbbbbb cc}"));
        Desk.same("hyphen points", "x[1]/////----------/1. aaaaaaaaaa bbbbb-/   bb/=",
            Desk.setNew(PLAIN + high + "@pat b1b\nx\\note{aaaaaaaaaa bbbbbbb}"));
        Desk.same("hyph 0", "x[1]/////----------/1. aaaaaaaaaa/   bbbbbbb/=",
            Desk.setNew(PLAIN + high + "@set hyph 0\n@pat b1b\nx\\note{aaaaaaaaaa bbbbbbb}"));
        Desk.same("not justified", "x[1]/////----------/1. aaa bbb/   cccccccccccccc/=",
            Desk.setNew(PLAIN + "@set justify 3\n" + high + "x\\note{aaa bbb cccccccccccccc}"));
        Desk.same("without words", "x[1]//////----------/1./=", Desk.setNew(PLAIN + high + "x\\note{}"));
        Desk.same("item", "- x[1]//////----------/1. y/=", Desk.setNew(PLAIN + high + "- x\\note{y}"));
        desk.set(PLAIN + "*x\\note{a *b*}*");
        Desk.same("styles of the mark", "1111", desk.styles(0, 0));
        Desk.same("styles of the note", "000" + "1" + "0" + "0", desk.styles(0, 23));
        Desk.same("notes", 1, desk.room.count(4));
        Desk.same("60", 0, desk.set(Desk.times("x\\note{}", 60)));
        Desk.same("61", 9 + 16, desk.set(Desk.times("x\\note{}", 61)));
    }

    private static void tables() {
        Desk.same("plain", "a  | bb/---+---/cc | d/=", Desk.setNew(PLAIN + "|a|bb|\n|cc|d"));
        Desk.same("aligned", "a  | bbb | ccc/---+-----+----/xx |  y  |   z/=", Desk.setNew(PLAIN + "|<|^| > |\n|a|bbb|ccc|\n|xx|y|z"));
        Desk.same("middle, the half ahead", " a/---/bb/ccc/=",
            Desk.setNew(PLAIN + "|^\n|a\n|bb\n|ccc"));
        Desk.same("left without", "a | b/--+--/c | d/=", Desk.setNew(PLAIN + "|>\n|a|b\n|c|d"));
        Desk.same("one row", "a | b/--+--/=", Desk.setNew(PLAIN + "|a|b"));
        Desk.same("an empty cell", "a |/--+--/b | c/=", Desk.setNew(PLAIN + "|a\n|b|c"));
        Desk.same("empty ahead", "  | a/--+--/b | c/=", Desk.setNew(PLAIN + "||a\n|b|c"));
        Desk.same("a line of no cells", "  |/--+--/a | b/=", Desk.setNew(PLAIN + "|\n|a|b"));
        Desk.same("alignment alone", "", Desk.setNew(PLAIN + "|<|>"));
        Desk.same("lines of no cells alone", "", Desk.setNew(PLAIN + "|\n| "));
        Desk.same("alignment and no cells", "", Desk.setNew(PLAIN + "|<\n|"));
        Desk.same("one empty cell", "/-/=", Desk.setNew(PLAIN + "| |"));
        Desk.same("no alignment in the second line", "a/-/</=", Desk.setNew(PLAIN + "|a\n|<"));
        Desk.same("no alignment with others", "< | x/--+--/=", Desk.setNew(PLAIN + "|<|x"));
        Desk.same("nor with two", "<</--/=", Desk.setNew(PLAIN + "|<<"));
    }

    private static void tableCells() {
        Desk.same("words", "a b/---/=", Desk.setNew(PLAIN + "|  a   b  |"));
        Desk.same("behind a \\", "a|b | c/----+--/=", Desk.setNew(PLAIN + "|a\\|b|c"));
        Desk.same("within braces", "A|B | c/----+--/=", Desk.setNew(PLAIN + "|\\up{a|b}|c"));
        Desk.same("calls", "2 | x/--+--/=", Desk.setNew(PLAIN + "|\\len{ab}|{x}"));
        Desk.same("the widest one less, of several the first", "aaaa | bbbbb/aa   | b/-----+------/=",
            Desk.setNew("@set wide 12\n|aaaaaa|bbbbbb"));
        Desk.same("down to one", Desk.times("a | ", 7) + "a/" + Desk.times("a | ", 7) + "a/" + Desk.times("--+-", 7) + "-/=",
            Desk.setNew("@set wide 12\n" + Desk.times("|aa", 8)));
        Desk.same("dashes part", "aa-  | bbbbb/aaa  |/-----+------/=", Desk.setNew("@set wide 12\n|aa-aaa|bbbbb"));
        Desk.same("filled", "aa bb  | c d/cc     |/-------+----/e      | f/=", Desk.setNew("@set wide 12\n|aa bb cc|c d\n|e|f"));
        Desk.same("no hyphen points", "aaaaaaaa/bbbbbbbbbbbb/b/------------/=",
            Desk.setNew("@set wide 12\n@pat b1b\n|aaaaaaaa bbbbbbbbbbbbb"));
        Desk desk = new Desk();
        desk.set(PLAIN + "|*a*|_b");
        Desk.same("styles", "10002", desk.styles(0, 0));
        Desk.same("of the line of -", "00000", desk.styles(0, 1));
        Desk.same("blanks at the end go, hard ones, too", "a/--/=", Desk.setNew(PLAIN + "|a\\ "));
    }

    private static void tableFaults() {
        Desk desk = new Desk();
        Desk.same("8 cells", 0, desk.set(Desk.times("|a", 8)));
        Desk.same("8 and blanks", 0, desk.set(Desk.times("|a", 8) + "| "));
        Desk.same("9 cells", 9 + 16, desk.set(Desk.times("|a", 9)));
        Desk.same("ahead of their texts", 9 + 16, desk.set("|}" + Desk.times("|a", 8)));
        Desk.same("row by row", 2 + 16, desk.set("|}\n" + Desk.times("|a", 9)));
        Desk.same("a } that closes none", 2 + 16, desk.set("|a}|b"));
        Desk.same("open", 2 + 16, desk.set("|{a|b"));
        Desk.same("the block's line", 2 + 16, desk.set("|a\n|b\n|}"));
    }

    private static void raw() {
        Desk.same("as it is", "*a* \\b {/  c /=", Desk.setNew(PLAIN + ">*a* \\b {\n>  c "));
        Desk.same("wide at most", "123456789012/=", Desk.setNew("@set wide 12\n>1234567890123"));
        Desk.same("empty", "/=", Desk.setNew(">"));
    }

    private static void contents() {
        Desk desk = new Desk();
        Desk.same("fills the line", "1 a .............. 1/  1.1 b .......... 1//1 a//1.1 b/=",
            desk.shown(PLAIN + "@toc\n= a\n== b"));
        Desk.same("rounds", 2, desk.room.count(9));
        Desk.same("origins", "5 5 0 6 0 7", desk.origins(0));
        Desk.same("cut, one . at least", "1 abcdef . 1//1 abcdefgh/=",
            Desk.setNew("@set gap 0\n@set wide 12\n@toc\n= abcdefgh"));
        Desk.same("label's length", "1 a b .. iii//1 a b/=", Desk.setNew("@set wide 12\n@set first 3\n@set system 2\n@toc\n= a\\ b"));
        Desk.same("no headings, no lines", "x/=", Desk.setNew(PLAIN + "@toc\nx"));
        desk.set(PLAIN + "= *a*\n@toc");
        Desk.same("style", "00000000000000000000", desk.styles(0, 1));
    }

    private static void index() {
        Desk.same("in order", "x/a, 1/Ink, 1/ink, 1/ink pot, 1/Ja, 1/=",
            Desk.setNew(PLAIN + "x\\index{ink  pot}\\index{Ink}\\index{ink}\\index{a}\\index{Ja}\\index{ink}\n@index"));
        StringBuilder text = new StringBuilder(PLAIN);
        for (int page = 1; page <= 9; page++) {
            text.append("x").append(page).append(page == 3 || page == 6 ? "" : "\\index{k}").append("\\index{m}\\index{m}");
            text.append(page == 1 ? "\\index{two words}" : "").append("\n@page\n");
        }
        Desk desk = new Desk();
        Desk.same("set", 0, desk.set(text + "@index"));
        Desk.same("pages", "k, 1, 2, 4, 5, 7-9/m, 1-9/two words, 1/", desk.page(9));
        Desk.same("keys", 3, desk.room.count(6));
        desk.set(text + "@set first 27\n@set system 4\n@index");
        Desk.same("labels", "k, aa, ab, ad, ae,/", desk.page(9).substring(0, 19));
        Desk.same("hang", "x/kkkkkkkkkkk,/  1/=",
            Desk.setNew("@set indent 0\n@set gap 0\n@set wide 12\nx\\index{kkkkkkkkkkk}\n@index"));
        Desk.same("a dash parts", "kkkkkkkk, 1-/  3/", dashedIndex());
        Desk.same("a hard blank is a blank in keys", "x/a b, 1/=", Desk.setNew(PLAIN + "x\\index{a\\ b}\\index{a b}\n@index"));
        Desk.same("no keys", 0, new Desk().set("@index"));
        keysWithHardBlanks();
    }

    private static void keysWithHardBlanks() {
        Desk.same("at the end: ahead of the comma", "x/pear , 1/=", Desk.setNew(PLAIN + "x\\index{pear\\ }\n@index"));
        Desk.same("several at the end", "x/pear , 1/=", Desk.setNew(PLAIN + "x\\index{pear\\ \\ \\ }\n@index"));
        Desk.same("behind a plain one", "x/pear , 1/=", Desk.setNew(PLAIN + "x\\index{pear \\ }\n@index"));
        Desk.same("at the beginning, two within", "x/a b, 1/=", Desk.setNew(PLAIN + "x\\index{\\ a\\ \\ b}\n@index"));
        Desk.same("nothing else", "x/, 1/=", Desk.setNew(PLAIN + "x\\index{\\ }\n@index"));
        Desk desk = new Desk();
        Desk.same("another key than without", "x/a, 1/a , 1/a , 1/a b, 1/=",
            desk.shown(PLAIN + "x\\index{a\\ \\ }\\index{a b}\\index{a\\ }\\index{a}\n@index"));
        Desk.same("keys", 4, desk.room.count(6));
        Desk.same("the comma is a word of its own", "x/kkkkkkkkkkk/  , 1/=",
            Desk.setNew("@set indent 0\n@set gap 0\n@set wide 12\nx\\index{kkkkkkkkkkk\\ }\n@index"));
    }

    private static void origins() {
        Desk desk = new Desk();
        desk.set("@set high 20\n@set head 1\n\n= a\ntext\\note{n}\nmore\n\n|a\n|b\n>r\n>s\n- i\n j\n- k");
        Desk.same("of blocks, of a note, and 0", "0 0 4 0 5 0 8 8 8 0 10 10 0 12 14 0 0 0 0 5", desk.origins(0));
        desk.set("= a\n@index\n@toc\nx\\index{k}");
        Desk.same("of directives", "1 0 2 0 3 0 4", desk.origins(0));
    }

    private static String dashedIndex() {
        Desk desk = new Desk();
        desk.set("@set wide 12\n" + Desk.times("x\\index{kkkkkkkk}\n@page\n", 3) + "@index");
        return desk.page(3);
    }
}
