/** The edges of part 3, directive by directive and setting by setting. */
public final class DirectivesEdgeTest {
    private static final String[] CALLS = {"up", "low", "cap", "rot", "rev", "rep", "sub", "word", "len", "at", "add", "mul", "num",
        "step", "show", "if", "note", "label", "index", "ref", "page"};

    public static void main(String[] args) {
        justSo();
        names();
        numbersAndBodies();
        settingWords();
        settingNumbers();
        patterns();
        exceptions();
        atFirst();
        leastAndMost();
        forTheBlocksBehind();
        forAllPages();
        behindTheirDirective();
        Desk.close();
    }

    private static void good(String text) {
        Desk.same(text, 0, new Desk().set(text));
    }

    private static void bad(String text) {
        Desk.same(text, 1 + 16 * 3, new Desk().set("a\n\n" + text));
    }

    private static void justSo() {
        Desk.says("3. DIRECTIVES, just so (a blank at each place where one stands, none else, nothing behind)");
        for (String text : new String[] {"@toc", "@index", "@page"}) {
            good(text);
            bad(text + " ");
            bad(text + " x");
            bad(text + "x");
            bad(text.toUpperCase());
            bad(text.substring(0, text.length() - 1));
            bad("@ " + text.substring(1));
            bad("@" + text);
        }
        for (String text : new String[] {"@def a 1", "@def a 1 x", "@set wide 20", "@pat a", "@pat a b", "@word ab", "@word ab cd"}) {
            good(text);
            for (int i = 0; i < text.length(); i++) {
                if (text.charAt(i) == ' ' && !text.substring(0, i).equals("@def a 1")) {
                    bad(text.substring(0, i) + " " + text.substring(i));
                    bad(text.substring(0, i) + "," + text.substring(i + 1));
                }
            }
        }
        for (String text : new String[] {"@set wide 20", "@pat a", "@pat a b", "@word ab"}) {
            bad(text + " ");
        }
        bad("@");
        bad("@ ");
        bad("@x");
        bad("@def");
        bad("@set");
        bad("@pat");
        bad("@word");
        bad("@words ab");
        bad("@Set wide 20");
        good("@def a 1 x ");
    }

    private static void names() {
        Desk.says("a NAME of 1 to 12 letters that is no built-in call");
        good("@def a 0");
        good("@def Z 0");
        good("@def abcdefGHIJKL 0");
        bad("@def abcdefGHIJKLm 0");
        bad("@def  0");
        bad("@def 0");
        bad("@def a1 0");
        bad("@def a- 0");
        bad("@def a@ 0");
        bad("@def a[ 0");
        bad("@def a` 0");
        bad("@def a{ 0");
        good("@def azAZ 0");
        bad("@def \\a 0");
        for (String call : CALLS) {
            bad("@def " + call + " 0");
            good("@def " + call + "x 0");
            good("@def " + call.toUpperCase() + " 0");
            good("@def x" + call + " 0");
        }
        good("@def def 0");
        good("@def de 0");
        Desk desk = new Desk();
        desk.set("@def ab 0 1\n@def a 0 2\n@def abc 0 3\n@def AB 0 4");
        Desk.same("names that begin alike", "2 1 3 4", desk.told("\\a{} \\ab{} \\abc{} \\AB{}"));
        Desk.same("four of them", 4, desk.room.count(16));
    }

    private static void numbersAndBodies() {
        Desk.says("a digit N, and nothing or a blank and the BODY (all the rest): a macro of N arguments (told again: in place of the former one).");
        good("@def a 9 #9");
        bad("@def a");
        bad("@def a ");
        bad("@def a x");
        bad("@def a -1");
        bad("@def a /");
        bad("@def a :");
        bad("@def a 10");
        bad("@def a 1x");
        bad("@def a 01 x");
        Desk desk = new Desk();
        desk.set("@def n 0\n@def e 0 \n@def b 0  x y  \n@def one 1 (#1)\n@def h 0 @def a 0 x");
        Desk.same("nothing", "<>", desk.told("<\\n>"));
        Desk.same("a blank and nothing", "<>", desk.told("<\\e>"));
        Desk.same("all the rest", "< x y  >", desk.told("<\\b>"));
        Desk.same("none of it is looked at", "<@def a 0 x>", desk.told("<\\h>"));
        Desk.same("with its argument", "(x)y", desk.told("\\one{x}y"));
        desk.set("@def a 0 one\n@def b 0 \\a\n@def a 1 [#1\\b\\c\n@def c 0 ]\n@def b 0 ");
        Desk.same("the latest, in what was told ahead, too", "[x]", desk.told("\\a{x}"));
        Desk.same("three", 3, desk.room.count(16));
        Desk.same("between the two the former", "  one//  two/=", desk.shown("@def a 0 one\n\\a\n@def a 0 two\n\\a"));
        Desk.same("it shows nothing", "1 a/=", desk.shown("@def a 0\n= a\n@def b 0 x"));
        Desk.same("fewer arguments", "  <>x/=", desk.shown("@def a 1 #1\n@def a 0 <>\n\\a{x}"));
    }

    private static void settingWords() {
        Desk.says("@set WORD NUMBER (1 to 3 digits), a SETTING and what it may be.");
        bad("@set wid 40");
        bad("@set widee 40");
        bad("@set WIDE 40");
        bad("@set  40");
        bad("@set 40");
        bad("@set wide");
        bad("@set wide ");
        bad("@set wide x");
        bad("@set wide 4x");
        bad("@set wide 4/");
        bad("@set wide 4:");
        bad("@set wide /40");
        bad("@set wide -40");
        bad("@set wide +40");
        bad("@set wide 40 40");
        bad("@set width 40");
        bad("@set page 1");
    }

    private static void settingNumbers() {
        good("@set wide 040");
        good("@set gap 000");
        good("@set gap 00");
        bad("@set gap 0000");
        bad("@set wide 0040");
        bad("@set first 1000");
        bad("@set wide 4294967336");
        Desk desk = new Desk();
        desk.set("@set wide 012\n>1234567890123");
        Desk.same("012 is 12", 12, desk.room.length(0, 0));
    }

    private static void patterns() {
        Desk.says("@pat and words: PATTERNS of small letters, digits and . , 1 to 16 signs, a letter at least, no two digits side by side.");
        good("@pat a");
        good("@pat az0.9a");
        good("@pat " + Desk.times("ab", 8));
        good("@pat " + Desk.times("a1", 8));
        good("@pat .a. 1a1 9z0 a.1b");
        bad("@pat " + Desk.times("ab", 8) + "a");
        bad("@pat 1");
        bad("@pat .");
        bad("@pat 1.2");
        bad("@pat a11");
        bad("@pat 11a");
        bad("@pat a12b");
        bad("@pat A");
        bad("@pat aZ");
        bad("@pat a-b");
        bad("@pat a,b");
        bad("@pat a`");
        bad("@pat a{");
        bad("@pat a/");
        bad("@pat a:");
        bad("@pat a a11");
        bad("@pat a11 a");
        Desk.says("(These words, one at least, with a blank between; all of them are looked at ahead of 9.)");
        bad("@pat");
        bad("@pat ");
        bad("@pat a  b");
        bad("@pat  a");
        bad("@pat a ");
    }

    private static void exceptions() {
        Desk.says("@word and words: EXCEPTIONS of small letters and -, 2 to 24 signs, no - at an end or beside another.");
        good("@word ab");
        good("@word a-b");
        good("@word az-za");
        good("@word " + Desk.times("a-", 11) + "ab");
        good("@word " + Desk.times("ab", 12));
        bad("@word a");
        bad("@word -");
        bad("@word --");
        bad("@word " + Desk.times("ab", 12) + "a");
        bad("@word -a");
        bad("@word a-");
        bad("@word a--b");
        bad("@word aB");
        bad("@word Ab");
        bad("@word a1");
        bad("@word a.b");
        bad("@word a`");
        bad("@word a{");
        bad("@word a,");
        bad("@word ab a");
        bad("@word a ab");
        bad("@word");
        bad("@word ");
        bad("@word ab  ab");
        bad("@word ab ");
    }

    private static void shows(String what, String due, String text) {
        Desk.same(what, due, Desk.setNew(text));
    }

    private static String points(String rules) {
        Desk desk = new Desk();
        desk.set(rules);
        desk.feed(Desk.times("a", 20));
        desk.room.hyphens();
        return desk.answer();
    }

    private static String rows(int many) {
        return Desk.times(">x\n", many);
    }

    /** Each setting as it is at first shows in a text of its own. */
    private static void atFirst() {
        Desk.says("SETTINGS, from .. to (at first). For the blocks behind: wide 12 .. 80 (40), indent 0 .. 8 (2), justify 0 .. 3 (3), "
            + "hyph 0 .. 1 (1), left 1 .. 9 (2), right 1 .. 9 (2), fill 0 .. 1 (0), keep 0 .. 3 (2), gap 0 .. 3 (1).");
        shows("wide 40", Desk.times("r", 40) + "/=", ">" + Desk.times("r", 41));
        shows("indent 2", "  a/=", "a");
        shows("justify 3", "  aaa     bb/dddddddd/=", "@set wide 12\naaa bb dddddddd");
        shows("hyph 1", "  aaaa bbbb-/ccc/=", "@set wide 12\n@pat b1c\naaaa bbbbccc");
        Desk.same("left 2, right 2", "aa" + Desk.times("-a", 16) + "-aa", points("@pat a1a"));
        shows("fill 0", "  aa  bbb cc/ddddd/eeeeeeeeee/=", "@set wide 12\naa bbb cc ddddd eeeeeeeeee");
        shows("keep 2", "x/x/x/x/=  aaaaaaaaaa/bbbbbbbbbb/=", "@set high 5\n@set gap 0\n@set wide 12\n" + rows(4)
            + "aaaaaaaaaa bbbbbbbbbb");
        shows("keep no more than 2", "x/x/x/  aaaaaaaaaa/bbbbbbbbbb/=cccccccccc/dddddddddd/=",
            "@set high 5\n@set gap 0\n@set wide 12\n" + rows(3) + "aaaaaaaaaa bbbbbbbbbb cccccccccc dddddddddd");
        shows("gap 1", "a//b/=", ">a\n\n>b");
        Desk.says("high 5 .. 60 (24), head 0 .. 1 (0), first 1 .. 999 (1), system 1 .. 5 (1), and wide for their heads.");
        shows("high 24, head 0", Desk.times("x/", 24) + "=x/=", rows(25));
        shows("first 1, system 1", Desk.times(" ", 39) + "1//x/=" + Desk.times(" ", 39) + "2//x/=", "@set head 1\n>x\n@page\n>x");
        Desk desk = new Desk();
        desk.set("@set wide 12\n@set indent 8\n@set gap 3\n@set high 5\n@set head 1\n@set first 7\n@set system 2\na\n\nb");
        Desk.same("at first in each set", "  a//  b/=", desk.shown("a\n\nb"));
        Desk.same("at first in each round", "1 h//a/=", desk.shown("= h\n>a\n@set gap 3\n@set wide 12"));
        Desk.same("two rounds", 2, desk.room.count(9));
    }

    private static void leastAndMost() {
        String[] names = {"wide", "indent", "justify", "hyph", "left", "right", "fill", "keep", "gap", "high", "head", "first", "system"};
        int[] least = {12, 0, 0, 0, 1, 1, 0, 0, 0, 5, 0, 1, 1};
        int[] most = {80, 8, 3, 1, 9, 9, 1, 3, 3, 60, 1, 999, 5};
        for (int i = 0; i < names.length; i++) {
            for (int value = least[i]; value <= most[i]; value += most[i] > 100 ? 499 : 1) {
                good("@set " + names[i] + " " + value);
            }
            if (least[i] > 0) {
                bad("@set " + names[i] + " " + (least[i] - 1));
                bad("@set " + names[i] + " 0");
            }
            bad("@set " + names[i] + " " + (most[i] + 1));
        }
        shows("wide 12", Desk.times("r", 12) + "/=", "@set wide 12\n>" + Desk.times("r", 81));
        shows("wide 80", Desk.times("r", 80) + "/=", "@set wide 80\n>" + Desk.times("r", 81));
        shows("indent 0", "a/=", "@set indent 0\na");
        shows("indent 8", "        a/=", "@set indent 8\na");
        shows("gap 0", "a/b/=", "@set gap 0\n>a\n\n>b");
        shows("gap 3", "a////b/=", "@set gap 3\n>a\n\n>b");
        shows("high 5", Desk.times("x/", 5) + "=x/=", "@set high 5\n" + rows(6));
        shows("high 60", Desk.times("x/", 60) + "=x/=", "@set high 60\n" + rows(61));
        shows("hyph 0", "  aaaa/bbbbccc/=", "@set hyph 0\n@set wide 12\n@pat b1c\naaaa bbbbccc");
        Desk.same("left 1, right 1", "a" + Desk.times("-a", 19), points("@set left 1\n@set right 1\n@pat a1a"));
        Desk.same("left 9, right 9", Desk.times("a", 9) + "-a-a-" + Desk.times("a", 9), points("@set left 9\n@set right 9\n@pat a1a"));
        shows("fill 1", "  aa     bbb/cc     ddddd/eeeeeeeeee/=",
            "@set fill 1\n@set wide 12\naa bbb cc ddddd eeeeeeeeee");
        shows("first 999", Desk.times(" ", 9) + "999//x/=" + Desk.times(" ", 8) + "1000//x/=",
            "@set first 999\n@set head 1\n@set wide 12\n>x\n@page\n>x");
        String head = "@set first 28\n@set head 1\n@set wide 12\n>x\n@set system ";
        shows("system 1", "          28//x/=", head + 1);
        shows("system 2", "      xxviii//x/=", head + 2);
        shows("system 3", "      XXVIII//x/=", head + 3);
        shows("system 4", "          ab//x/=", head + 4);
        shows("system 5", "           s//x/=", head + 5);
    }

    private static void forTheBlocksBehind() {
        Desk.says("For the blocks behind:");
        String row = "\n>" + Desk.times("r", 30) + "\n";
        shows("wide", Desk.times("r", 30) + "//" + Desk.times("r", 12) + "//" + Desk.times("r", 20) + "/=",
            row + "@set wide 12" + row + "@set wide 13\n@set wide 20" + row);
        shows("indent", "  a//a//        a/=", "a\n@set indent 0\na\n@set indent 8\na");
        shows("gap", "a//b/c////d/=", ">a\n\n>b\n@set gap 0\n>c\n@set gap 3\n>d");
        shows("justify", "  aaa     bb/dddddddd//       aa bb/    dddddddd/=",
            "@set wide 12\naaa bb dddddddd\n@set justify 1\naa bb dddddddd");
        shows("hyph", "  aaaa bbbb-/ccc//  aaaa/bbbbccc/=", "@set wide 12\n@pat b1c\naaaa bbbbccc\n@set hyph 0\naaaa bbbbccc");
        shows("left", "  aaaa bbbb-/ccc//  aaaa/bbbbccc/=", "@set wide 12\n@pat b1c\naaaa bbbbccc\n@set left 5\naaaa bbbbccc");
        shows("right", "  aaaa bbbb-/ccc//  aaaa/bbbbccc/=", "@set wide 12\n@pat b1c\naaaa bbbbccc\n@set right 4\naaaa bbbbccc");
        String two = "aaaaaaaaaa bbbbbbbbbb\n";
        shows("keep", "x/x/x/x/  aaaaaaaaaa/=bbbbbbbbbb/x/x/x/=  aaaaaaaaaa/bbbbbbbbbb/=", "@set high 5\n@set gap 0\n@set wide 12\n"
            + "@set keep 1\n" + rows(4) + two + "@set keep 2\n" + rows(3) + two);
    }

    private static void forAllPages() {
        Desk.says("For all pages, as they are told last:");
        shows("high", Desk.times("x/", 5) + "=x/=", rows(6) + "@set high 6\n@set high 5");
        shows("high among blocks", Desk.times("x/", 6) + "=", "@set high 5\n" + rows(6) + "@set high 6");
        shows("head", "x/=", "@set head 1\n>x\n@set head 0");
        shows("first", Desk.times(" ", 38) + "41//x/=", "@set head 1\n@set first 40\n>x\n@set first 41");
        shows("system", Desk.times(" ", 36) + "VIII//x/=", "@set head 1\n@set first 8\n@set system 2\n>x\n@set system 3");
        shows("wide for their heads", Desk.times(" ", 19) + "1//" + Desk.times("r", 30) + "/=",
            "@set head 1\n>" + Desk.times("r", 30) + "\n@set wide 12\n@set wide 20");
    }

    private static void behindTheirDirective() {
        Desk.says("Patterns, exceptions, macros count behind their directive.");
        String text = "aaaa bbbbccc\n";
        shows("a pattern", "  aaaa/bbbbccc//  aaaa bbbb-/ccc/=", "@set wide 12\n" + text + "@pat b1c\n" + text);
        shows("an exception", "  aaaa bbbb-/ccc//  aaaa/bbbbccc/=", "@set wide 12\n@pat b1c\n" + text + "@word bbbbccc\n" + text);
        Desk.same("a macro", 3 + 16, new Desk().set("\\m\n@def m 0 x"));
        Desk.same("in the second round, too", 3 + 16 * 2, new Desk().set("= h\n\\if{\\page{k}}{??}{a}{\\m}\\label{k}\n@def m 0 x"));
        shows("behind it", "  x/=", "@def m 0 x\n\\m");
    }
}
