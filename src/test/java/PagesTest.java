/** Part 6: how pages end, and what they show; promises 10 and 11. */
public final class PagesTest {
    private static final String LOW = "@set high 5\n@set gap 0\n@set indent 0\n@set justify 0\n@set wide 12\n";

    public static void main(String[] args) {
        spaces();
        cuts();
        ends();
        kept();
        headings();
        tables();
        notes();
        longNotes();
        heads();
        many();
        Desk.close();
    }

    private static void is(String what, String due, String text) {
        Desk.same(what, due, Desk.setNew(text));
    }

    private static void spaces() {
        is("gap", "a///b/=", "@set gap 2\n@set indent 0\na\n\nb");
        is("none ahead of the first", "a/=", "@set gap 3\n@set indent 0\n\n\na");
        is("of the block behind", "a/b///c/=", "@set gap 0\n@set indent 0\na\n\nb\n\n@set gap 2\nc");
        is("a heading one at least", "a//1 h/b/=", "@set gap 0\n@set indent 0\na\n= h\nb");
        is("none between items", "- a/- b//- c/=", "- a\n- b\n\n- c");
        is("a block without lines has none", "a//b/=", "@set indent 0\na\n\n\\rep{0}{x}\n\nb");
        is("at the top they go", "1/2/3/4/5/=6/=", "@set gap 3\n@set high 5\n>1\n>2\n>3\n>4\n>5\n\n>6");
        is("behind the last line not", "1/2/3/4/=6/=", "@set gap 3\n@set high 5\n>1\n>2\n>3\n>4\n\n>6");
    }

    private static void cuts() {
        is("a cut", "a/=b/=", LOW + "a\n@page\nb");
        is("several", "a/=b/=", LOW + "@page\na\n@page\n\n@page\nb\n@page");
        is("behind a heading", "1 h/=a/=", LOW + "= h\n@page\na");
        is("none of it", "", "@page\n@page");
        is("if all fits up to there", "1/2/3/4/5/=6/=7/=", LOW + ">1\n>2\n>3\n>4\n>5\n>6\n@page\n>7");
    }

    private static void ends() {
        is("full", "1/2/3/4/5/=6/=", LOW + ">1\n>2\n>3\n>4\n>5\n>6");
        is("just full", "1/2/3/4/5/=", LOW + ">1\n>2\n>3\n>4\n>5");
        is("items may part", "- 1/- 2/- 3/- 4/- 5/=- 6/=", LOW + "- 1\n- 2\n- 3\n- 4\n- 5\n- 6");
        Desk desk = new Desk();
        Desk.same("set", 0, desk.set(LOW + ">1\n>2\n>3\n>4\n>5\n>6"));
        Desk.same("pages", 2, desk.room.pages());
        Desk.same("lines", 5, desk.room.lines(0));
        Desk.same("lines", 1, desk.room.lines(1));
        Desk.same("count of pages", 2, desk.room.count(3));
        Desk.same("count of lines", 6, desk.room.count(12));
    }

    private static String words(int many) {
        StringBuilder text = new StringBuilder();
        for (int i = 0; i < many; i++) {
            text.append((char) ('a' + i)).append("aaaaaaaa ");
        }
        return text.append("\n").toString();
    }

    private static String rows(String letters) {
        StringBuilder due = new StringBuilder();
        for (int i = 0; i < letters.length(); i++) {
            due.append(letters.charAt(i)).append("aaaaaaaa/");
        }
        return due.toString();
    }

    private static void kept() {
        is("keep 2 ahead", "1/2/3/4/=" + rows("abc") + "=", LOW + ">1\n>2\n>3\n>4\n" + words(3));
        is("keep 1", "1/2/3/4/" + rows("a") + "=" + rows("bc") + "=", LOW + "@set keep 1\n>1\n>2\n>3\n>4\n" + words(3));
        is("keep 0", "1/2/3/4/" + rows("a") + "=" + rows("bc") + "=", LOW + "@set keep 0\n>1\n>2\n>3\n>4\n" + words(3));
        is("keep 2 behind", "1/2/" + rows("ab") + "=" + rows("cd") + "=", LOW + ">1\n>2\n" + words(4));
        is("not two of three", "1/2/3/=" + rows("abc") + "=", LOW + ">1\n>2\n>3\n" + words(3));
        is("keep 3", "1/2/=" + rows("abcd") + "=", LOW + "@set keep 3\n>1\n>2\n" + words(4));
        is("longer than a page", rows("abcde") + "=" + rows("fg") + "=", LOW + words(7));
        is("so that two are behind", rows("abcd") + "=" + rows("ef") + "=", LOW + words(6));
        is("where it may not, if there is none", "1/" + rows("abcd") + "=" + rows("e") + "=",
            LOW + "@set keep 3\n= \\sub{0}{0}{}\n" + words(5));
        is("items", "1/2/3/4/=- " + "aaaaaaaa/  baaaaaaa/=", LOW + ">1\n>2\n>3\n>4\n- aaaaaaaa baaaaaaa");
    }

    private static void headings() {
        is("not behind a heading", "1/2/3/=1 h/4/=", LOW + ">1\n>2\n>3\n= h\n>4");
        is("two headings", "1/=1 h//1.1 i/4/=", LOW + ">1\n= h\n== i\n>4\n");
        is("at the very end", "1/2/3//1 h/=", LOW + ">1\n>2\n>3\n= h");
        is("if there is no other", "1 h//1.1 i//1.2 j/=1.3 k/=", LOW + "= h\n== i\n== j\n== k");
    }

    private static void tables() {
        is("head and first row", "1/2/3/=a/-/b/c/=", LOW + ">1\n>2\n>3\n|a\n|b\n|c");
        is("behind other rows", "1/2/a/-/b/=c/=", LOW + ">1\n>2\n|a\n|b\n|c");
        is("not within a row", "1/a/------------/b/=cccccccccccc/cccc/=", LOW + ">1\n|a\n|b\n|cccccccccccc cccc");
        is("not behind the line of -", "1/2/3/=a/-/x/=", LOW + ">1\n>2\n>3\n|a\nx");
    }

    private static void notes() {
        is("theirs and one", "1/a[1]/2/----------/1. n/=3/=", LOW + ">1\na\\note{n}\n>2\n>3");
        is("up to high", "a[1]///----------/1. n/=", LOW + "a\\note{n}");
        is("with the line that carries them", "1/2/3/4/=a[1]///----------/1. n/=", LOW + ">1\n>2\n>3\n>4\na\\note{n}");
        is("full", "1/2/a[1]/----------/1. n/=", LOW + ">1\n>2\na\\note{n}");
        is("of several lines", "a[1]/b[2]/----------/1. n/2. m/=", LOW + "a\\note{n}\n\nb\\note{m}");
        is("in order", "a[1] b[2]//----------/1. n/2. m/=", LOW + "a\\note{n} b\\note{m}");
    }

    private static void longNotes() {
        Desk desk = new Desk();
        Desk.same("as many lines as fit", "a[1]/----------/1. aaaaaaaaa/   baaaaaaaa/   caaaaaaaa/=2/=",
            desk.shown(LOW + "a\\note{" + words(9).trim() + "}\n>2"));
        Desk.same("origins", "6 0 6 6 6", desk.origins(0));
        Desk.same("shown", 6, desk.room.count(12));
        Desk.same("behind its first line", "x/=a[1]/----------/1. aaaaaaaaa/   baaaaaaaa/   caaaaaaaa/=2/=",
            desk.shown(LOW + ">x\na\\note{" + words(9).trim() + "}\n>2"));
        Desk.same("put - that aren't shown don't count", 0, putOfCut());
    }

    private static int putOfCut() {
        Desk desk = new Desk();
        desk.set(LOW + "@pat z1z\na\\note{" + words(3) + "zzzzzzzzzzzz}");
        return desk.room.count(8);
    }

    private static void heads() {
        String head = "@set head 1\n@set high 6\n@set gap 0\n@set wide 12\n";
        is("number alone", "           1//  a/=", head + "a");
        is("title and blanks", "1 h        1//1 h/2/3/4/=1 h        2//5/=", head + "= h\n>2\n>3\n>4\n>5");
        is("the latest ahead or with it", "           1//a/=1 h        2//1 h/=2 i        3//2 i/=2 i        4//b/=", head + ">a\n@page\n= h\n@page\n= i\n@page\n>b");
        is("not one within the page", "           1//a//1 h/=", head + ">a\n= h");
        is("level 1 alone", "           1//0.1 h/=", head + "== h");
        is("cut", "1 abcdefgh 1//1 abcdefghij/=",
            head + "= abcdefghij");
        is("no room", "dccclxxxviii//1 h/=", head + "@set first 888\n@set system 2\n= h");
        is("wide as told last", "1 h                1//1 h/=", head + "= h\n@set wide 20");
        is("notes", "           1//  a[1]//----------/1. n/=", head + "a\\note{n}");
    }

    private static void many() {
        Desk desk = new Desk();
        Desk.same("99", 0, desk.set(Desk.times(">x\n@page\n", 99)));
        Desk.same("pages", 99, desk.room.pages());
        Desk.same("100", 9 + 16 * 200, desk.set(Desk.times(">x\n@page\n", 100)));
        Desk.same("the last block's line", 9 + 16 * 202, desk.set(Desk.times(">x\n@page\n", 100) + "\n@set wide 20\n\n"));
    }
}
