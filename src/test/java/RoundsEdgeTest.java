/** The edges of part 7: references, what settles, the fifth round; and that nothing of an earlier set stays. */
public final class RoundsEdgeTest {
    private static final String PLAIN = "@set indent 0\n@set justify 0\n@set gap 0\n@set wide 40\n";
    /** Gives its third part in the first round, its fourth in the others, if there is a label k. */
    private static final String FIRST = "\\if{\\page{k}}{??}";

    public static void main(String[] args) {
        refs();
        refsOfMarkers();
        pagesOfLabels();
        unknown();
        settledAtOnce();
        labelsSettle();
        headingsSettle();
        indexMarksSettle();
        nothingElseMatters();
        theFifth();
        ofTheRoundBefore();
        allBlocksInEachRound();
        nothingStays();
        Desk.close();
    }

    private static String last(String text) {
        Desk desk = new Desk();
        Desk.same(text, 0, desk.set(PLAIN + text));
        int page = desk.room.pages() - 1;
        return desk.line(page, desk.room.lines(page) - 1);
    }

    private static void refs() {
        Desk.says("ref K gives the REF of K's label of the round before: the number of the heading or of the item with # (its marker without the "
            + "last sign) that began latest ahead of that label in the round (nothing, if there was none)");
        Desk.same("nothing", "<>", last("a\\label{k}\n\n<\\ref{k}>"));
        Desk.same("a heading", "<1>", last("= a\nb\\label{k}\n\n<\\ref{k}>"));
        Desk.same("its own heading", "<1>", last("= a\\label{k}\n<\\ref{k}>"));
        Desk.same("a deep one", "<1.0.1>", last("= a\n=== a\nb\\label{k}\n= c\n<\\ref{k}>"));
        Desk.same("a heading behind it", "<>", last("b\\label{k}\n= a\n<\\ref{k}>"));
        Desk.same("the latest", "<2>", last("= a\n= a\nb\\label{k}\n= c\n<\\ref{k}>"));
        Desk.same("an item", "<2>", last("= a\n# b\n# c\\label{k}\n\n<\\ref{k}>"));
        Desk.same("a heading behind an item", "<1>", last("# b\n# c\n= a\nd\\label{k}\n\n<\\ref{k}>"));
        Desk.same("an item of - is none", "<1>", last("# b\n- c\\label{k}\n\n<\\ref{k}>"));
        Desk.same("an item behind the list", "<1>", last("# b\n\nc\\label{k}\n\n<\\ref{k}>"));
        Desk.same("each round anew", "<>", last("a\\label{k}\n= b\n\n<\\ref{k}>"));
        Desk.same("where it stands", "<1> 1", last("= a\nb\\label{k} <\\ref{k}>\n\n<\\ref{k}> \\page{k}"));
    }

    private static void refsOfMarkers() {
        Desk.same("depth 0", "<10>", last(Desk.times("# a\n", 9) + "# b\\label{k}\n\n<\\ref{k}>"));
        Desk.same("depth 1", "<c>", last(Desk.times("  # a\n", 2) + "  # b\\label{k}\n\n<\\ref{k}>"));
        Desk.same("depth 2", "<iv>", last(Desk.times("    # a\n", 3) + "    # b\\label{k}\n\n<\\ref{k}>"));
    }

    private static void pagesOfLabels() {
        Desk.says("page K the LABEL of the page that has it; each ?? if there was no such label in the round before (in the first there is none).");
        Desk.same("page 1", "1", last("a\\label{k}\n\n\\page{k}"));
        Desk.same("page 2", "2", last("a\n@page\nb\\label{k}\n\n\\page{k}"));
        Desk.same("by first and system", "viii", last("@set first 7\n@set system 2\na\n@page\nb\\label{k}\n\n\\page{k}"));
        Desk.same("as they are told last", "IX", last("@set first 7\na\\label{k}\n@set first 9\n@set system 3\n\n\\page{k}"));
        Desk.same("ahead of it", "a 2", last("@set high 5\n\\page{k}\n@page\na\\label{k} \\page{k}"));
        Desk.same("none", "????", last("\\page{k}\\ref{k}"));
        Desk.same("great and small", "??1", last("a\\label{k}\n\n\\page{K}\\page{k}"));
        Desk.same("a longer key", "????", last("a\\label{kk}\n\n\\page{k}\\page{kkk}"));
    }

    private static void unknown() {
        Desk.says("11 how many ?? its round gave");
        Desk desk = new Desk();
        desk.set("a\\label{k}\\ref{k}\\page{k}");
        Desk.same("none in the last", 0, desk.room.count(11));
        desk.set("a\\ref{k}\\page{k}");
        Desk.same("each", 2, desk.room.count(11));
        desk.set("a\\label{k}\\ref{x}\\ref{k}\n\n|\\page{x}\n\n= \\ref{x}\n- b\\note{\\page{x}}");
        Desk.same("in all blocks", 4, desk.room.count(11));
        desk.set("a\\if{\\ref{x}}{??}{b}{c}");
        Desk.same("though it isn't shown", 1, desk.room.count(11));
        desk.set(">\\ref{x}\n\n\\\\ref??");
        Desk.same("signs are none", 0, desk.room.count(11));
        desk.tell("\\ref{x}");
        Desk.same("not what is told", 0, desk.room.count(11));
    }

    private static String rounds(String text) {
        Desk desk = new Desk();
        Desk.same(text, 0, desk.set(text));
        return desk.room.count(9) + " " + desk.room.count(10);
    }

    private static void settledAtOnce() {
        Desk.says("are as in the round before (none ahead of the first), all is SETTLED, and that round is the last one");
        Desk.same("nothing", "1 1", rounds(""));
        Desk.same("no marks", "1 1", rounds("a\\note{b}\n\n|c\n\n# d \\step{a}{1} \\ref{x}"));
        Desk.same("contents of nothing", "1 1", rounds("@toc\n@index\na"));
        Desk.same("a label", "2 1", rounds("a\\label{k}"));
        Desk.same("a heading", "2 1", rounds("= a"));
        Desk.same("an index mark", "2 1", rounds("a\\index{k}"));
        Desk.same("all of them", "2 1", rounds("= a\nb\\label{k}\\index{k}"));
    }

    /** Text of a page's length in the first round alone: what is behind it goes to another page then. */
    private static String moved(String behind) {
        return "@set high 5\n@set wide 12\n@set gap 0\na\\label{k} " + FIRST + "{\\rep{5}{xxxxxxxxxxx }}{}\n\n" + behind;
    }

    private static void labelsSettle() {
        Desk.says("If labels (KEYS in their order, REFS, pages)");
        Desk.same("other keys", "3 1", rounds("a\\label{k}" + FIRST + "{\\label{a}}{\\label{b}}"));
        Desk.same("one more", "3 1", rounds("a\\label{k}" + FIRST + "{}{\\label{b}}"));
        Desk.same("one less", "3 1", rounds("a\\label{k}" + FIRST + "{\\label{b}}{}"));
        Desk.same("another order", "3 1", rounds("a\\label{k}" + FIRST + "{\\label{a}\\label{b}}{\\label{b}\\label{a}}"));
        Desk.same("the same signs, parted elsewhere", "3 1", rounds("a\\label{k}" + FIRST + "{\\label{ab}\\label{c}}{\\label{a}\\label{bc}}"));
        Desk.same("another REF", "3 1", rounds("# a\\label{k}" + FIRST + "{\\label{a}}{}\n# b" + FIRST + "{}{\\label{a}}"));
        Desk.same("the same REF", "2 1", rounds("# a\\label{k}" + FIRST + "{\\label{a}}{}\n- b" + FIRST + "{}{\\label{a}}"));
        Desk.same("another page", "3 1", rounds(moved("b\\label{a}")));
    }

    private static void headingsSettle() {
        Desk.says("headings (TITLES, levels, pages)");
        Desk.same("another title", "3 1", rounds("a\\label{k}\n= " + FIRST + "{a}{b}"));
        Desk.same("a longer title", "3 1", rounds("a\\label{k}\n= " + FIRST + "{a}{aa}"));
        Desk.same("the same title in another style", "2 1", rounds("a\\label{k}\n= " + FIRST + "{a}{_a}"));
        Desk.same("words parted elsewhere", "3 1", rounds("a\\label{k}\n= " + FIRST + "{a bc}{ab c}"));
        Desk.same("another page", "3 1", rounds(moved("= b")));
    }

    private static void indexMarksSettle() {
        Desk.says("index marks (in their order, pages)");
        Desk.same("another key", "3 1", rounds("a\\label{k}\\index{" + FIRST + "{a}{b}}"));
        Desk.same("great and small", "3 1", rounds("a\\label{k}\\index{" + FIRST + "{a}{A}}"));
        Desk.same("one more of a key", "3 1", rounds("a\\label{k}\\index{a}" + FIRST + "{}{\\index{a}}"));
        Desk.same("another order", "3 1", rounds("a\\label{k}" + FIRST + "{\\index{a}\\index{b}}{\\index{b}\\index{a}}"));
        Desk.same("the same signs, parted elsewhere", "3 1", rounds("a\\label{k}" + FIRST + "{\\index{ab}\\index{c}}{\\index{a}\\index{bc}}"));
        Desk.same("another page", "3 1", rounds(moved("b\\index{a}")));
    }

    private static void nothingElseMatters() {
        Desk desk = new Desk();
        Desk.same("notes, words, counters may differ", 0, desk.set(PLAIN + "a\\label{k} " + FIRST + "{b\\note{c}\\step{d}{1}}{e}"));
        Desk.same("rounds", "2 1", desk.room.count(9) + " " + desk.room.count(10));
        Desk.says("What it shows is the PROOF.");
        Desk.same("the last round's", "a e/=", desk.proof());
        Desk.same("its notes", 0, desk.room.count(4));
        Desk.same("its lines", 1, desk.room.count(12));
    }

    private static void theFifth() {
        Desk.says("and that round is the last one; else the fifth is.");
        StringBuilder chain = new StringBuilder("x\\label{a}");
        for (char key = 'a'; key < 'd'; key++) {
            chain.append("\\if{\\page{").append(key).append("}}{??}{}{").append((char) (key + 1)).append("\\label{")
                .append((char) (key + 1)).append("}}");
        }
        Desk desk = new Desk();
        Desk.same("a chain of four", 0, desk.set(PLAIN + chain));
        Desk.same("settles in the fifth", "5 1 xbcd", desk.room.count(9) + " " + desk.room.count(10) + " " + desk.line(0, 0));
        Desk.same("a chain of five", 0, desk.set(PLAIN + chain + "\\if{\\page{d}}{??}{}{e\\label{e}}"));
        Desk.same("doesn't settle", "5 0 xbcde", desk.room.count(9) + " " + desk.room.count(10) + " " + desk.line(0, 0));
        Desk.same("a chain of six", 0, desk.set(PLAIN + chain + "\\if{\\page{d}}{??}{}{e\\label{e}}\\if{\\page{e}}{??}{}{f}"));
        Desk.same("the sixth round isn't", "5 0 xbcde", desk.room.count(9) + " " + desk.room.count(10) + " " + desk.line(0, 0));
        Desk.same("what it would give there", "f", desk.told("\\if{\\page{e}}{??}{}{f}"));
        desk.set(PLAIN + "@set high 5\n\\if{\\page{a}}{1}{\\rep{5}{" + Desk.times("x", 39) + " }}{y}\n\nz\\label{a}");
        Desk.same("to and fro", "5 0 y/z/=", desk.room.count(9) + " " + desk.room.count(10) + " " + desk.proof());
    }

    /** A text that goes to and fro: its fifth round shows what the fourth had, where all was a page further on. */
    private static void ofTheRoundBefore() {
        Desk desk = new Desk();
        desk.set(PLAIN + "@set high 5\n\\if{\\page{a}}{1}{\\rep{5}{" + Desk.times("x", 39) + " }}{y} \\page{a}\n\nz\\label{a}\\index{i}\n= h\n"
            + "@page\n@toc\n@index");
        Desk.same("it doesn't settle", "5 0", desk.room.count(9) + " " + desk.room.count(10));
        Desk.says("ref K gives the REF of K's label of the round before");
        Desk.same("a page", "y 2/z//1 h/", desk.page(0));
        Desk.says("@toc: each HEADING of the round before");
        Desk.same("contents", "1 h " + Desk.times(".", 34) + " 2", desk.line(1, 0));
        Desk.says("of the round before once, in order");
        Desk.same("the index", "i, 2", desk.line(1, 1));
        Desk.says("the page (from 0 on) of the PROOF that has it");
        desk.feed("a");
        Desk.same("labelled", 0, desk.room.labelled());
        Desk.says("what ref and page would give in a round behind that of the PROOF");
        Desk.same("told", "1", desk.told("\\page{a}"));
    }

    private static void allBlocksInEachRound() {
        Desk.says("In each round all blocks are gone through, and the pages are made.");
        Desk desk = new Desk();
        desk.set("@def m 0 x\n@pat a1b\n@word ab\n= h\n\\m\\note{n}\\step{a}{1}");
        Desk.same("rounds", 2, desk.room.count(9));
        Desk.same("macros, patterns, exceptions, notes, headings, pages of one round", "1 1 1 1 1 1",
            desk.room.count(16) + " " + desk.room.count(17) + " " + desk.room.count(18) + " " + desk.room.count(4) + " " + desk.room.count(5)
            + " " + desk.room.count(3));
        Desk.same("counters of one round", "  x[1]1", desk.line(0, 2));
        desk.set("a\\label{k}\n@page\nb\\if{\\page{k}}{??}{}{\\label{l}}\n@page\nc");
        Desk.same("pages of the last round", "3 3", desk.room.count(9) + " " + desk.room.pages());
    }

    /** What a set answers and shows doesn't depend on what the room did before. */
    private static void nothingStays() {
        String[] texts = {"", "a", "}", "= a\n== b\\label{k}\n@toc\n@index\nc\\index{i}\\ref{k}\\page{k}\n@page\nd\\index{i}\\note{n}",
            "@set head 1\n@toc\n= a\n@page\n= b\nc\\note{d}\\note{e}\n\n|^|>\n|a|b|c\n|dd|ee", "|a|b|c\n\n|d\n\n|>\n|e\n|fff",
            "@set wide 12\n@set fill 1\n@pat a1b\n@word ab-ab\naabb aabb abab aabb aabb\n\n# a\n  # b\n    # c\n# d\\label{k}",
            "@def m 2 #2#1\n@def n 0 \\m{a}{b}\n\\n\\step{a}{1}\\step{b}{1}", "- a\\note{b}\\index{c}\n- \\zz", "@def m 0 x\n\\m{}\\label{z}\\index{y}}",
            "@set first 9\n@set system 2\n@set head 1\na\\label{k}\n@page\n\\page{k} \\ref{k}", "# a\n# b\n= c\n\\label{k}}"};
        for (String first : texts) {
            for (String second : texts) {
                Desk desk = new Desk();
                desk.set(first);
                desk.told("\\step{a}{1}\\ref{k}");
                Desk.same(first + " ahead of " + second, all(second, new Desk()), all(second, desk));
            }
        }
    }

    private static String all(String text, Desk desk) {
        StringBuilder out = new StringBuilder(desk.shown(text));
        for (int what = 3; what <= 18; what++) {
            out.append(' ').append(what == 14 || what == 15 ? 0 : desk.room.count(what));
        }
        for (int page = 0; page < desk.room.count(3); page++) {
            out.append(desk.origins(page)).append(';');
            for (int line = 0; line < desk.room.lines(page); line++) {
                out.append(desk.styles(page, line)).append(',');
            }
        }
        for (String told : new String[] {"\\ref{k}\\page{k}\\ref{z}", "\\m{1}{2}", "\\n", "\\show{a}{1}"}) {
            out.append(' ').append(desk.told(told));
        }
        for (String word : new String[] {"aabb", "abab"}) {
            desk.feed(word);
            out.append(' ').append(desk.room.hyphens());
        }
        desk.feed("k");
        return out.append(' ').append(desk.room.labelled()).toString();
    }
}
