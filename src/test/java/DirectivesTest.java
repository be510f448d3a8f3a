/** Part 3: directives as they must be, settings and their edges; promise 9. */
public final class DirectivesTest {
    private static final int WRONG = 1;

    public static void main(String[] args) {
        define();
        wrongDefine();
        settings();
        wrongSettings();
        patterns();
        exceptions();
        others();
        lines();
        Desk.close();
    }

    private static int fault(String text) {
        return new Desk().set(text);
    }

    private static void good(String text) {
        Desk.same(text, 0, fault(text));
    }

    private static void bad(String text) {
        Desk.same(text, WRONG + 16 * 2, fault("\n" + text));
    }

    private static void define() {
        good("@def a 0");
        good("@def a 9 ");
        good("@def abcdefABCDEF 1 x y  ");
        good("@def UP 1 x");
        good("@def a 0 {");
        Desk desk = new Desk();
        desk.set("@def a 0 one\n@def b 0 two\n@def a 1 [#1]");
        Desk.same("told again counts once", 2, desk.room.count(16));
        Desk.same("in place of the former", "[x]", desk.told("\\a{x}"));
        desk.set("@def a 0  x  \n");
        Desk.same("all the rest", "( x  )", desk.told("(\\a)"));
        Desk.same("behind its directive", 3 + 16, desk.set("\\a\n@def a 0 x"));
        Desk.same("in each round", 3 + 16 * 2, desk.set("= h\n\\a\n@def a 0 x"));
        Desk.same("none then", 0, desk.room.count(16));
        StringBuilder many = new StringBuilder();
        for (int i = 0; i < 40; i++) {
            many.append("@def m").append((char) ('a' + i / 26)).append((char) ('a' + i % 26)).append(" 0 x\n");
        }
        Desk.same("40", 0, desk.set(many + "@def maa 0 y\n"));
        Desk.same("41", 9 + 16 * 41, desk.set(many + "@def x 0 y\n"));
        Desk.same("40 there", 40, desk.room.count(16));
    }

    private static void wrongDefine() {
        bad("@def");
        bad("@def ");
        bad("@def a");
        bad("@def a ");
        bad("@def a x");
        bad("@def a 10 x");
        bad("@def a 1x");
        bad("@def  a 1 x");
        bad("@def a  1 x");
        bad("@def a1 1 x");
        bad("@def abcdefghijklm 1 x");
        bad("@def up 1 x");
        bad("@def page 0");
        bad("@def if 0");
        bad("@Def a 0");
        bad("@defa 0");
    }

    private static void settings() {
        String[] names = {"wide", "indent", "justify", "hyph", "left", "right", "fill", "keep", "gap", "high", "head",
            "first", "system"};
        int[] least = {12, 0, 0, 0, 1, 1, 0, 0, 0, 5, 0, 1, 1};
        int[] most = {80, 8, 3, 1, 9, 9, 1, 3, 3, 60, 1, 999, 5};
        for (int i = 0; i < names.length; i++) {
            good("@set " + names[i] + " " + least[i]);
            good("@set " + names[i] + " " + most[i]);
            bad("@set " + names[i] + " " + (most[i] + 1));
            if (least[i] > 0) {
                bad("@set " + names[i] + " " + (least[i] - 1));
            }
        }
        good("@set wide 012");
    }

    private static void wrongSettings() {
        bad("@set");
        bad("@set wide");
        bad("@set wide ");
        bad("@set wide 0040");
        bad("@set wide 40 ");
        bad("@set wide  40");
        bad("@set  wide 40");
        bad("@set wide -40");
        bad("@set wide 4O");
        bad("@set wid 40");
        bad("@set wides 40");
        bad("@set Wide 40");
        bad("@set  40");
    }

    private static void patterns() {
        good("@pat a");
        good("@pat .a1b. 1a b2 a.b a1b2c3d4e5f6g7h8");
        bad("@pat");
        bad("@pat ");
        bad("@pat a ");
        bad("@pat a  b");
        bad("@pat 1");
        bad("@pat .");
        bad("@pat a12");
        bad("@pat A");
        bad("@pat a-b");
        bad("@pat abcdefghijklmnopq");
        good("@pat abcdefghijklmnop");
        Desk desk = new Desk();
        Desk.same("120", 0, desk.set("@pat a" + Desk.times(" b1", 119)));
        Desk.same("there", 120, desk.room.count(17));
        Desk.same("121", 9 + 16, desk.set("@pat a" + Desk.times(" b1", 120)));
        Desk.same("120 there", 120, desk.room.count(17));
        Desk.same("all are looked at first", 1 + 16, desk.set("@pat a" + Desk.times(" b1", 120) + " 5"));
        Desk.same("none there", 0, desk.room.count(17));
    }

    private static void exceptions() {
        good("@word ab a-b ab-cd-ef");
        good("@word " + Desk.times("ab", 12));
        bad("@word");
        bad("@word ");
        bad("@word a");
        bad("@word -ab");
        bad("@word ab-");
        bad("@word a--b");
        bad("@word aB");
        bad("@word a1");
        bad("@word ab  cd");
        bad("@word ab cd ");
        bad("@word a" + Desk.times("ab", 12));
        Desk desk = new Desk();
        Desk.same("60", 0, desk.set("@word ab" + Desk.times(" a-b", 59)));
        Desk.same("there", 60, desk.room.count(18));
        Desk.same("61", 9 + 16 * 2, desk.set("\n@word ab" + Desk.times(" a-b", 60)));
        Desk.same("60 there", 60, desk.room.count(18));
    }

    private static void others() {
        good("@toc");
        good("@index");
        good("@page");
        bad("@toc ");
        bad("@index x");
        bad("@pages");
        bad("@");
        bad("@ toc");
        bad("@foo");
        good(" @foo");
    }

    private static void lines() {
        Desk.same("no heading without a blank", "=x/=", Desk.setNew("@set indent 0\n=x"));
        Desk.same("no heading of four", "==== x/=", Desk.setNew("@set indent 0\n==== x"));
        Desk.same("a heading without words", "1/=", Desk.setNew("= "));
        Desk.same("no item behind three blanks", "- x/=", Desk.setNew("@set indent 0\n   - x"));
        Desk.same("no item without a blank", "-x/=", Desk.setNew("@set indent 0\n-x"));
        Desk.same("a dash alone", "-/=", Desk.setNew("@set indent 0\n-"));
        Desk.same("text goes on", "a b c/=", Desk.setNew("@set indent 0\na\nb\n c"));
        Desk.same("an empty line parts", "a//b/=", Desk.setNew("@set indent 0\na\n  \nb"));
        Desk.same("an item takes what begins with a blank", "- a b//c d/=", Desk.setNew("@set indent 0\n- a\n b\nc\n d"));
        Desk.same("nothing", 0, new Desk().set(""));
        Desk.same("no page", "", Desk.setNew(" \n\n@set wide 12"));
    }
}
