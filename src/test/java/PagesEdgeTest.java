/** The edges of part 6: spaces, cuts, where pages end, what they show. */
public final class PagesEdgeTest {
    private static final String LOW = "@set high 5\n@set gap 0\n@set indent 0\n@set justify 0\n@set wide 12\n";
    private static final String HEADS = "@set head 1\n@set high 7\n@set gap 0\n@set indent 0\n@set wide 12\n";

    public static void main(String[] args) {
        spaces();
        noEndBehindHeadings();
        noEndWithinTexts();
        noEndWithinTables();
        highLines();
        topOfPages();
        spacesThatFit();
        cuts();
        latestThatMay();
        noneThatMay();
        notesThatFit();
        notesThatDoNotFit();
        longNotes();
        heads();
        headTitles();
        headsOfRounds();
        emptyLines();
        notesAtTheFoot();
        labels();
        Desk.close();
    }

    private static void is(String what, String due, String text) {
        Desk.same(what, due, Desk.setNew(text));
    }

    private static String raw(int from, int to) {
        StringBuilder text = new StringBuilder();
        for (int i = from; i <= to; i++) {
            text.append('>').append(i).append('\n');
        }
        return text.toString();
    }

    private static String rows(int from, int to) {
        return raw(from, to).replace(">", "").replace("\n", "/");
    }

    /** Words that have a line each, and these lines. */
    private static String words(String letters) {
        StringBuilder text = new StringBuilder();
        for (int i = 0; i < letters.length(); i++) {
            text.append(Desk.times(letters.substring(i, i + 1), 9)).append(' ');
        }
        return text + "\n";
    }

    private static String lines(String letters) {
        return words(letters).trim().replace(" ", "/") + "/";
    }

    private static void spaces() {
        Desk.says("Ahead of each block that has lines, but the first such and an item right behind an item: gap SPACES (of a heading one at "
            + "least)");
        is("gap 0", "a/b/=", "@set gap 0\n>a\n\n>b");
        is("gap 3", "a////b/=", "@set gap 3\n>a\n\n>b");
        is("not ahead of the first", "a/=", "@set gap 3\n\n>a");
        is("the first that has lines", "a/=", "@set gap 3\n{}\n\n|<\n@toc\n>a");
        is("not of those without lines", "a///b/=", "@set gap 2\n>a\n\n{}\n\n|\n@index\n>b");
        is("an item right behind an item", "- a/- b/=", "@set gap 3\n- a\n- b");
        is("an item behind a line", "- a////- b/=", "@set gap 3\n- a\n\n- b");
        is("an item behind a directive", "- a////- b/=", "@set gap 3\n- a\n@set keep 2\n- b");
        is("an item behind another block", "a////- b/=", "@set gap 3\n>a\n- b");
        is("another block behind an item", "- a////b/=", "@set gap 3\n- a\n>b");
        is("a deeper item", "- a/  * b/=", "@set gap 3\n- a\n  - b");
        is("a heading one at least", "a//1 b/c/=", "@set gap 0\n>a\n= b\n>c");
        is("a heading gap 1", "a//1 b/=", "@set gap 1\n>a\n= b");
        is("a heading gap 3", "a////1 b/=", "@set gap 3\n>a\n= b");
        is("two headings", "1 a//2 b/=", "@set gap 0\n= a\n= b");
        is("a heading that is the first", "1 b/=", "@set gap 3\n= b");
        is("of the block behind", "a/b///c/=", "@set gap 0\n>a\n\n>b\n@set gap 2\n>c\n@set gap 3");
    }

    private static void noEndBehindHeadings() {
        Desk.says("NO page ends: behind a line of a heading;");
        is("behind one", "1/2/3/=1 h/4/=", LOW + raw(1, 3) + "= h\n" + raw(4, 4));
        is("behind its first of two", "1/2/=1 " + "aaaaaaaaa/  bbbbbbbbb/3/4/5/=", LOW + raw(1, 2) + "= " + words("ab") + raw(3, 5));
        is("of each level", "1/2/3/=0.0.1 h/4/=", LOW + raw(1, 3) + "=== h\n" + raw(4, 4));
        is("SPACES behind it, too", "1/=1 h////2/=", LOW + raw(1, 1) + "= h\n@set gap 3\n" + raw(2, 2));
        is("with what it may not part from", "1/2/=1 h/" + lines("ab") + "=", LOW + raw(1, 2) + "= h\n" + words("ab"));
    }

    private static void noEndWithinTexts() {
        Desk.says("within a PARAGRAPH or ITEM, but with at least keep of its lines on both sides;");
        is("keep 2, one ahead", "1/2/3/4/=" + lines("abcd") + "=", LOW + raw(1, 4) + words("abcd"));
        is("keep 2, two ahead", "1/2/3/" + lines("ab") + "=" + lines("cd") + "=", LOW + raw(1, 3) + words("abcd"));
        is("keep 2, one behind", "1/2/" + lines("ab") + "=" + lines("cd") + "=", LOW + raw(1, 2) + words("abcd"));
        is("keep 2 of three", "1/2/3/=" + lines("abc") + "=", LOW + raw(1, 3) + words("abc"));
        is("keep 1", "1/2/3/4/" + lines("a") + "=" + lines("bc") + "=", LOW + "@set keep 1\n" + raw(1, 4) + words("abc"));
        is("keep 1 of two", "1/2/3/4/" + lines("a") + "=" + lines("b") + "=", LOW + "@set keep 1\n" + raw(1, 4) + words("ab"));
        is("keep 0 of two", "1/2/3/4/" + lines("a") + "=" + lines("b") + "=", LOW + "@set keep 0\n" + raw(1, 4) + words("ab"));
        is("keep 3 of five", "1/2/=" + lines("abcde") + "=", LOW + "@set keep 3\n" + raw(1, 2) + words("abcde"));
        is("keep 3 of six", "1/2/" + lines("abc") + "=" + lines("def") + "=", LOW + "@set keep 3\n" + raw(1, 2) + words("abcdef"));
        is("an item, keep 2", "1/2/3/4/=- aaaaaaaaa/  bbbbbbbbb/=", LOW + raw(1, 4) + "- " + words("ab"));
        is("an item, keep 1", "1/2/3/4/- aaaaaaaaa/=  bbbbbbbbb/=", LOW + "@set keep 1\n" + raw(1, 4) + "- " + words("ab"));
        is("behind items it may", "- a/- b/- c/- d/- e/=- f/=", LOW + "- a\n- b\n- c\n- d\n- e\n- f");
        is("behind an item without words it may", rows(1, 4) + "-/=5/=", LOW + "@set keep 3\n" + raw(1, 4) + "- \n" + raw(5, 5));
        is("behind a text of one line it may", rows(1, 4) + lines("a") + "=5/=", LOW + "@set keep 3\n" + raw(1, 4) + words("a") + raw(5, 5));
        is("behind raw lines it may", rows(1, 5) + "=6/=", LOW + "@set keep 3\n" + raw(1, 6));
        is("behind an index's lines", "x/a, 1/b, 1/c, 1/d, 1/=e, 1/=", LOW + "@set keep 3\nx\\index{a}\\index{b}\\index{c}\\index{d}\\index{e}\n@index");
    }

    private static void noEndWithinTables() {
        Desk.says("behind a line of a table's row that isn't the row's last, the first row's last, the line of -.");
        is("the first row's last", "1/2/3/4/=a/-/b/=", LOW + raw(1, 4) + "|a\n|b");
        is("the line of -", "1/2/3/=a/-/b/=", LOW + raw(1, 3) + "|a\n|b");
        is("the line of -, of one row", "1/2/3/=a/-/4/=", LOW + raw(1, 3) + "|a\n>4");
        is("behind another row", "1/2/a/-/b/=c/=", LOW + raw(1, 2) + "|a\n|b\n|c");
        is("within another row", "1/a/------------/b/=123456789012/3/=", LOW + raw(1, 1) + "|a\n|b\n|1234567890123");
        is("behind its last line", "a/------------/123456789012/3/b/=c/=", LOW + "|a\n|1234567890123\n|b\n|c");
        is("at the end it may", "1/2/3/a/-/=", LOW + raw(1, 3) + "|a");
        is("a CUT behind it", "1/2/3/a/-/=4/=", LOW + raw(1, 3) + "|a\n@page\n>4");
    }

    private static void highLines() {
        Desk.says("A page has high lines, 2 less for a head.");
        is("5", rows(1, 5) + "=6/=", LOW + raw(1, 6));
        is("just full", rows(1, 5) + "=", LOW + raw(1, 5));
        is("3 with a head", "           1//1/2/3/=           2//4/=", LOW + "@set head 1\n" + raw(1, 4));
        is("60", rows(1, 60) + "=61/=", "@set high 60\n" + raw(1, 61));
        is("58 with a head", "           1//" + rows(1, 58) + "=           2//59/=", "@set high 60\n@set head 1\n@set wide 12\n" + raw(1, 59));
    }

    private static void topOfPages() {
        Desk.says("From its first line on (SPACES and CUTS at the top go)");
        is("SPACES at the top", rows(1, 5) + "=a/=", LOW + raw(1, 5) + "@set gap 3\n>a");
        is("CUTS at the top", "a/=b/=", LOW + "@page\n@page\n>a\n@page\n@page\n>b\n@page");
        is("both", "a/=b/=", LOW + ">a\n@page\n@set gap 3\n@page\n>b");
        is("a CUT behind a full page", rows(1, 5) + "=6/=", LOW + raw(1, 5) + "@page\n" + raw(6, 6));
        is("CUTS alone", "", LOW + "@page\n@page");
        is("a heading's SPACES", rows(1, 5) + "=1 h/=", LOW + raw(1, 5) + "= h");
    }

    private static void spacesThatFit() {
        Desk.says("lines and SPACES come as long as they fit");
        is("just fits", "1/2/3//4/=", LOW + raw(1, 3) + "@set gap 1\n" + raw(4, 4));
        is("doesn't fit", "1/2/3/4/=5/=", LOW + raw(1, 4) + "@set gap 1\n" + raw(5, 5));
        is("three of them", "1////2/=3/=", LOW + raw(1, 1) + "@set gap 3\n" + raw(2, 3));
        is("three that don't", "1/2/=3/=", LOW + raw(1, 2) + "@set gap 3\n" + raw(3, 3));
    }

    private static void cuts() {
        Desk.says("@page: a CUT.");
        is("one", "1/=2/=", LOW + raw(1, 1) + "@page\n" + raw(2, 2));
        is("two are one", "1/=2/=", LOW + raw(1, 1) + "@page\n@page\n" + raw(2, 2));
        is("one at the end is none", "1/=", LOW + raw(1, 1) + "@page");
        is("one ahead is none", "1/=", LOW + "@page\n" + raw(1, 1));
        is("it parts a list's numbers, too", "1. a/=1. b/=", LOW + "# a\n@page\n# b");
        Desk.says("It ends behind a line: where a CUT or nothing is next, if all fits up to there;");
        is("a CUT", "1/2/=3/=", LOW + raw(1, 2) + "@page\n" + raw(3, 3));
        is("behind a heading", "1/2//1 h/=3/=", LOW + raw(1, 2) + "= h\n@page\n" + raw(3, 3));
        is("behind a full page", rows(1, 5) + "=6/=", LOW + raw(1, 5) + "@page\n" + raw(6, 6));
        is("not all fits", rows(1, 5) + "=6/=7/=", LOW + raw(1, 6) + "@page\n" + raw(7, 7));
        is("nothing is next, behind a heading", "1/2/3//1 h/=", LOW + raw(1, 3) + "= h");
        is("nothing is next, though it doesn't fit", "1/2/3/4/=1 h/=", LOW + raw(1, 4) + "= h");
        is("between items", "- a/=- b/=", LOW + "- a\n@page\n- b");
    }

    private static void latestThatMay() {
        Desk.says("else behind the latest line up to which all fits and where a page may end;");
        is("far up", "1/=1 h/" + lines("abc") + "=", LOW + raw(1, 1) + "= h\n" + words("abc"));
        is("the latest of several", "1/2/" + lines("abc") + "=" + lines("de") + "=", LOW + raw(1, 2) + words("abcde"));
        is("a block's last line", "1/2/" + lines("a") + "=" + lines("bcd") + "=", LOW + raw(1, 2) + words("a") + "\n" + words("bcd"));
    }

    private static void noneThatMay() {
        Desk.says("if there is none, behind the latest up to which all fits;");
        is("a heading and a text", "1 h/" + lines("abcd") + "=" + lines("e") + "=", LOW + "@set keep 3\n= h\n" + words("abcde"));
        is("headings alone", "1 a//2 b//3 c/=4 d/=", LOW + "= a\n= b\n= c\n= d");
        is("SPACES behind it don't come", "1 a//2 b//3 c/=4 d/=", LOW + "@set high 6\n= a\n= b\n= c\n= d");
        is("a long heading", "1 aaaaaaaaa/  " + lines("bcde").replace("/", "/  ").trim() + "=  fffffffff/=",
            LOW + "= " + words("abcdef"));
        is("a text with keep 3", lines("abcde") + "=", LOW + "@set keep 3\n" + words("abcde"));
        is("a table's first row", Desk.times("123456789012/", 5) + "=123456789012/------------/=",
            LOW + "|" + Desk.times("123456789012", 6));
    }

    private static void notesThatFit() {
        Desk.says("those, and, if notes are carried by its lines, these notes' lines and one.");
        is("just fits", "1/2/a[1]/----------/1. n/=3/=", LOW + raw(1, 2) + "a\\note{n}\n" + raw(3, 3));
        is("a line behind it just fits", "1/a[1]/2/----------/1. n/=3/=", LOW + raw(1, 1) + "a\\note{n}\n" + raw(2, 3));
        is("two notes of a line", "1/a[1][2]/----------/1. n/2. m/=2/=", LOW + raw(1, 1) + "a\\note{n}\\note{m}\n" + raw(2, 2));
        is("two notes of two lines", "a[1]/b[2]/----------/1. n/2. m/=2/=", LOW + "a\\note{n}\n\nb\\note{m}\n" + raw(2, 2));
        is("one line for both", "a[1]/b[2]/1/2/3/----------/1. n/2. m/=", LOW + "@set high 8\na\\note{n}\n\nb\\note{m}\n" + raw(1, 3));
        is("a note of two lines", "a[1]/1/----------/1. xxxxxxxxx/   yyyyyyyyy/=2/=", LOW + "a\\note{xxxxxxxxx yyyyyyyyy}\n" + raw(1, 2));
        is("a head's two", "           1//a[1]/----------/1. n/=           2//1/=", LOW + "@set head 1\na\\note{n}\n" + raw(1, 1));
    }

    private static void notesThatDoNotFit() {
        is("its line goes with it", "1/2/3/=a[1]///----------/1. n/=", LOW + raw(1, 3) + "a\\note{n}");
        is("the second of two", "a[1]///----------/1. n/=b[2]//----------/2. xxxxxxxxx/   yyyyyyyyy/=",
            LOW + "a\\note{n}\n\nb\\note{xxxxxxxxx yyyyyyyyy}");
        is("a CUT to which it doesn't fit", "1/2/3/=a[1]///----------/1. n/=4/=", LOW + raw(1, 3) + "a\\note{n}\n@page\n" + raw(4, 4));
        is("a text is parted ahead of it", "1/" + lines("ab") + "=ccccccccc/ddd[1]//----------/1. n/=",
            LOW + raw(1, 1) + words("abc").trim() + " ddd\\note{n}");
    }

    private static void longNotes() {
        Desk.says("if there is none (a line with long notes): behind its first line, the notes having as many lines as fit.");
        String note = "\\note{" + words("vwxyz").trim() + "}";
        String first = "----------/1. vvvvvvvvv/   wwwwwwwww/   xxxxxxxxx/=";
        is("its first line", "a[1]/" + first + "1/=", LOW + "a" + note + "\n" + raw(1, 1));
        is("lines ahead are another page", "1/2/=a[1]/" + first, LOW + raw(1, 2) + "a" + note);
        is("all but one fit", "a[1]/----------/1. vvvvvvvvv/   wwwwwwwww/   xxxxxxxxx/=", LOW + "a\\note{" + words("vwxy").trim() + "}");
        is("all fit", "a[1]/----------/1. vvvvvvvvv/   wwwwwwwww/   xxxxxxxxx/=", LOW + "a\\note{" + words("vwx").trim() + "}");
        is("of two the second is cut", "a[1][2]/----------/1. n/2. vvvvvvvvv/   wwwwwwwww/=", LOW + "a\\note{n}" + note);
        is("of two the second has none", "a[1][2]/" + first, LOW + "a" + note + "\\note{n}");
        is("with a head", "           1//a[1]/----------/1. vvvvvvvvv/=           2//1/=", LOW + "@set head 1\na" + note + "\n" + raw(1, 1));
        is("the next line of its block", "aaaaaa[1]/" + first + "bbbbbbbbb[2]/----------/2. vvvvvvvvv/   wwwwwwwww/   xxxxxxxxx/=",
            LOW + "@set keep 0\naaaaaa" + note + " bbbbbbbbb" + note);
        Desk desk = new Desk();
        desk.set(LOW + "a" + note);
        Desk.same("how many notes", 1, desk.room.count(4));
        Desk.same("lines that are shown", 5, desk.room.count(12));
    }

    private static void heads() {
        Desk.says("(nothing without), cut to wide less 1 and less the LABEL's length (0 at least), blanks, and the LABEL, so that it ends at wide "
            + "(without blanks, if there is no room); an empty line.");
        is("nothing without", "           1//a/=", HEADS + ">a");
        is("two blanks", "1 abcdefg  1//1 abcdefg/=", HEADS + "= abcdefg");
        is("one blank", "1 abcdefgh 1//1 abcdefgh/=", HEADS + "= abcdefgh");
        is("cut", "1 abcdefgh 1//1 abcdefghi/=", HEADS + "= abcdefghi");
        is("a longer label", "1 abc xxviii//1 abcdefghi/=", HEADS + "@set first 28\n@set system 2\n= abcdefghi");
        is("one sign", "1 cclxxxviii//1 abc/=", HEADS + "@set first 288\n@set system 2\n= abc");
        is("0 signs", " ccclxxxviii//1 abc/=", HEADS + "@set first 388\n@set system 2\n= abc");
        is("no room", "dccclxxxviii//1 abc/=", HEADS + "@set first 888\n@set system 2\n= abc");
        is("nothing and no room", "dccclxxxviii//abc/=", HEADS + "@set first 888\n@set system 2\n>abc");
        is("its wide is told last", "1 abc              1//1 abc/=", HEADS + "= abc\n@set wide 20");
        is("a blank where it is cut", "1 abcdefg  1//1 abcdefg hi/=", HEADS + "= abcdefg hi");
        Desk desk = new Desk();
        desk.set(HEADS + "= abc\n>d");
        Desk.same("origins", "0 0 6 7", desk.origins(0));
    }

    private static void headTitles() {
        Desk.says("the TITLE of the latest heading of level 1 that begins ahead of the page's first line or with it");
        is("with it", "1 a        1//1 a/=", HEADS + "= a");
        is("ahead of it", "1 a        1//1 a/=1 a        2//b/=", HEADS + "= a\n@page\n>b");
        is("behind it", "           1//b//1 a/=", HEADS + ">b\n= a");
        is("behind it, then ahead", "           1//b//1 a/=1 a        2//c/=", HEADS + ">b\n= a\n@page\n>c");
        is("the latest", "1 a        1//1 a//2 b/=2 b        2//c/=", HEADS + "= a\n= b\n@page\n>c");
        is("of level 1", "1 a        1//1 a//1.1 b/=1 a        2//1.2 c/=1 a        3//1.2.1 d/=", HEADS + "= a\n== b\n@page\n== c\n@page\n=== d");
        is("level 2 alone", "           1//0.1 a/=", HEADS + "== a");
        is("a heading that goes on", "1 aaaaaaaa 1//1 aaaaaaaaa/  bbbbbbbbb/  ccccccccc/  ddddddddd/  eeeeeeeee/=1 aaaaaaaa 2//  fffffffff/=",
            HEADS + "= " + words("abcdef"));
    }

    /** What an earlier round or set had doesn't stay: the contents push the heading off the top of the page. */
    private static void headsOfRounds() {
        String text = HEADS + "@toc\n= a\n@page\n= b";
        String due = "           1//1 a ...... 1/2 b ...... 2//1 a/=2 b        2//2 b/=";
        Desk desk = new Desk();
        for (int i = 1; i <= 4; i++) {
            Desk.same("set " + i, due, desk.shown(text));
        }
        desk.shown(HEADS + "= z");
        Desk.same("behind another", due, desk.shown(text));
        is("three rounds", "           1//1 a ...... 2/2 b ...... 2/3 c ...... 2/=1 a        2//1 a//2 b//3 c/=",
            HEADS + "@toc\n= a\n= b\n= c");
    }

    private static void emptyLines() {
        Desk.says("Its lines and SPACES (empty lines; those behind its last line not).");
        is("between", "1///2/=", LOW + raw(1, 1) + "@set gap 2\n" + raw(2, 2));
        is("behind the last not", "1/2/3/4/=a/=", LOW + raw(1, 4) + "@set gap 3\n>a");
        is("behind the last of all not", "1/=", LOW + raw(1, 1) + "@set gap 3\n{}");
        Desk desk = new Desk();
        desk.set(LOW + raw(1, 1) + "@set gap 2\n" + raw(2, 2));
        Desk.same("their length", "1 0 0 1", desk.room.length(0, 0) + " " + desk.room.length(0, 1) + " " + desk.room.length(0, 2) + " "
            + desk.room.length(0, 3));
        Desk.same("their origins", "6 0 0 8", desk.origins(0));
    }

    private static void notesAtTheFoot() {
        Desk.says("With notes empty lines up to high less theirs, a line of ten -, the notes' lines, in order.");
        is("two empty lines", "a[1]///----------/1. n/=", LOW + "a\\note{n}");
        is("none", "a[1][2][3]/----------/1. n/2. m/3. o/=", LOW + "a\\note{n}\\note{m}\\note{o}");
        is("with a head", "           1//a[1]///----------/1. n/=", HEADS + "a\\note{n}");
        is("on its own page alone", "a[1]///----------/1. n/=1/=", LOW + "a\\note{n}\n@page\n" + raw(1, 1));
        is("in order", "a[1]/b[2] c[3]//----------/1. n/2. m/3. o/=", LOW + "@set high 7\na\\note{n}\n\nb\\note{m} c\\note{o}");
        Desk desk = new Desk();
        desk.set(LOW + "@set high 6\na\\note{n}\n\nb\\note{m}");
        Desk.same("origins", "7 9 0 0 7 9", desk.origins(0));
        desk.set(LOW + "a\\note{n}");
        Desk.same("origins of empty lines", "6 0 0 0 6", desk.origins(0));
    }

    private static void labels() {
        Desk.says("A page's NUMBER is first and how many are ahead of it; its LABEL that by system.");
        Desk desk = new Desk();
        String text = HEADS + Desk.times(">a\n@page\n", 4);
        desk.set(text + "@set first 8\n@set system 2");
        Desk.same("labels", "viii ix x xi", told(desk));
        desk.set(text + "@set first 25\n@set system 4");
        Desk.same("letters", "y z aa ab", told(desk));
        desk.set(text + "@set first 35\n@set system 5");
        Desk.same("36 digits", "z 10 11 12", told(desk));
        desk.set(text + "@set first 998");
        Desk.same("four digits", "998 999 1000 1001", told(desk));
    }

    private static String told(Desk desk) {
        StringBuilder out = new StringBuilder();
        for (int page = 0; page < desk.room.pages(); page++) {
            out.append(desk.line(page, 0).trim()).append(' ');
        }
        return out.toString().trim();
    }
}
