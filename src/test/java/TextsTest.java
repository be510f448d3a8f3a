/** Part 2 by tell(), and promises 17 and 19. */
public final class TextsTest {
    public static void main(String[] args) {
        signs();
        letters();
        parts();
        numbers();
        systems();
        counters();
        choices();
        faults();
        faultOrder();
        depth();
        macros();
        tell();
        Desk.close();
    }

    private static void is(String due, String text) {
        Desk.same(text, due, Desk.toldNew(text));
    }

    private static void signs() {
        is("", "");
        is("a b  c ", "a b  c ");
        is("bold slanted", "*bold* _slanted_");
        is("*_#{}\\|-1", "\\*\\_\\#\\{\\}\\\\\\|\\-\\1");
        is("a b", "a\\ b");
        is("group in group", "{group {in} group}");
        is("a b", "a\nb");
        is("", "{}");
        is("}x{", "{\\}x\\{}");
    }

    private static void letters() {
        is("ABC1 D", "\\up{aBc1 d}");
        is("abc1 d", "\\low{ABc1 D}");
        is("Ink-Well 2Nd ABc", "\\cap{ink-well 2nd aBc}");
        is("xInk", "x\\cap{ink}");
        is("zab ZAB", "\\rot{-1}{abc ABC}");
        is("abc", "\\rot{2600}{abc}");
        is("vwx9", "\\rot{-9999}{klm9}".replace("klm", "" + (char) ('a' + Math.floorMod(21 + 9999, 26))
            + (char) ('a' + Math.floorMod(22 + 9999, 26)) + (char) ('a' + Math.floorMod(23 + 9999, 26))));
        is("cba", "\\rev{abc}");
        is("", "\\rev{}");
    }

    private static void parts() {
        is("ababab", "\\rep{3}{ab}");
        is("", "\\rep{0}{ab}");
        is(Desk.times("x", 50), "\\rep{50}{x}");
        is("bc", "\\sub{1}{2}{abcd}");
        is("d", "\\sub{3}{9999}{abcd}");
        is("", "\\sub{4}{1}{abcd}");
        is("", "\\sub{9999}{9999}{abcd}");
        is("", "\\sub{0}{0}{abcd}");
        is("bc", "\\word{1}{ a  bc d }");
        is("a", "\\word{0}{ a  bc d }");
        is("", "\\word{3}{ a  bc d }");
        is("", "\\word{-1}{a}");
        is("a b", "\\word{0}{a\\ b c}");
        is("5", "\\len{a\\ b\\{c}");
        is("0", "\\len{}");
        is("2", "\\at{c}{abc}");
        is("-1", "\\at{d}{abc}");
        is("0", "\\at{}{abc}");
        is("0", "\\at{}{}");
        is("1", "\\at{\\ }{a b}");
        is("1", "\\at{*b*}{abab}");
        is("-1", "\\at{abc}{ab}");
    }

    private static void numbers() {
        is("-3", "\\add{2}{-5}");
        is("19998", "\\add{9999}{9999}");
        is("-99980001", "\\mul{-9999}{9999}");
        is("0", "\\mul{-0}{5}");
        is("7", "\\add{0003}{04}");
        is("5", "\\add{\\len{ab}}{\\mul{3}{1}}");
        is("1", "\\add{*1*}{0}");
        is("!-6", "\\add{}{1}");
        is("!-6", "\\add{-}{1}");
        is("!-6", "\\add{12345}{1}");
        is("!-6", "\\add{ 1}{1}");
        is("!-6", "\\add{1}{+1}");
        is("!-6", "\\add{1}{1-}");
        is("!-6", "\\add{\\mul{100}{100}}{1}");
    }

    private static void systems() {
        is("1994 mcmxciv MCMXCIV bxr 1je", "\\num{1994}{1} \\num{1994}{2} \\num{1994}{3} \\num{1994}{4} \\num{1994}{5}");
        is("mmmcmxcix 4000 0 -1", "\\num{3999}{2} \\num{4000}{2} \\num{0}{2} \\num{-1}{3}");
        is("iii iv viii ix xl xc cd dcccxc", "\\num{3}{2} \\num{4}{2} \\num{8}{2} \\num{9}{2} \\num{40}{2} "
            + "\\num{90}{2} \\num{400}{2} \\num{890}{2}");
        is("a z aa az ba zz aaa 0 -5", "\\num{1}{4} \\num{26}{4} \\num{27}{4} \\num{52}{4} \\num{53}{4} \\num{702}{4} "
            + "\\num{703}{4} \\num{0}{4} \\num{-5}{4}");
        is("0 z 10 -10 7pr", "\\num{0}{5} \\num{35}{5} \\num{36}{5} \\num{-36}{5} \\num{9999}{5}");
        is("5", "\\num{5}{01}");
        is("!-6", "\\num{1}{0}");
        is("!-6", "\\num{1}{6}");
        is("!-6", "\\num{1}{}");
    }

    private static void counters() {
        is("1ii2c 0", "\\step{a}{1}\\step{a}{2}\\show{a}{1}\\step{a}{4} \\show{b}{1}");
        is("11", "\\step{a}{1}\\step{A}{1}");
        is("!-6", "\\step{}{1}");
        is("!-6", "\\show{a b}{1}");
        is("!-6", "\\step{abcdefghijklm}{1}");
        is("1", "\\step{abcdefghijk9}{1}");
        is("!-6", "\\step{a}{9}");
        StringBuilder many = new StringBuilder();
        for (int i = 1; i <= 20; i++) {
            many.append("\\step{k").append(i).append("}{1}");
        }
        is(Desk.times("1", 20), many.toString());
        is(Desk.times("1", 20) + "0", many + "\\show{x}{1}");
        is("!-10", many + "\\step{x}{1}");
        is("!-6", many + "\\step{x}{0}");
        Desk desk = new Desk();
        Desk.same("own counters", "1", desk.told("\\step{a}{1}"));
        Desk.same("each time", "1", desk.told("\\step{a}{1}"));
    }

    private static void choices() {
        is("yes", "\\if{a}{a}{yes}{no}");
        is("no", "\\if{a}{A}{yes}{no}");
        is("yes", "\\if{*a*}{a}{yes}{no}");
        is("yes", "\\if{ }{\\ }{yes}{no}");
        is("yes", "\\if{}{}{yes}{no}");
        is("no", "\\if{a}{ab}{yes}{no}");
        is("1", "\\if{a}{b}{\\step{a}{1}\\step{a}{1}}{\\step{a}{1}}");
        is("ok", "\\if{a}{a}{ok}{\\zz}");
        is("!-4", "\\if{a}{b}{ok}{\\zz}");
    }

    private static void faults() {
        is("!-3", "{a");
        is("!-3", "a}");
        is("!-3", "a\\");
        is("!-3", "\\up{a");
        is("!-3", "\\up{a\\}");
        is("!-3", "{{a}");
        is("!-4", "\\upx{a}");
        is("!-4", "\\Up{a}");
        is("!-4", "\\abcdefghijklmnop");
        is("!-5", "\\up");
        is("!-5", "\\up {a}");
        is("!-5", "\\sub{1}{2}");
        is("!-5", "\\if{a}{b}{c}");
        is("!-6", "\\rep{51}{x}");
        is("!-6", "\\rep{-1}{x}");
        is("!-6", "\\sub{-1}{2}{x}");
        is("!-6", "\\sub{1}{-2}{x}");
        is("!-6", "\\ref{}");
        is("!-6", "\\page{a-b}");
        is("!-7", "\\label{a}");
        is("!-7", "\\note{a}");
        is("!-7", "\\index{a}");
        is("!-12", "#1");
        is("!-12", "#");
        is("??", "\\ref{a}");
        is("????", "\\ref{a}\\page{a}");
    }

    private static void faultOrder() {
        is("!-7", "\\label");
        is("!-7", "\\up{\\label}");
        is("!-3", "\\sub{a");
        is("!-3", "\\sub{a}{\\zz");
        is("!-5", "\\sub{\\zz}{1}");
        is("!-3", "\\sub{\\zz}{1}{x");
        is("!-4", "\\sub{a}{\\zz}{x}");
        is("!-4", "\\zz}");
        is("!-3", "\\if{a}{b}{c}{d");
        is("!-3", "{\\zz");
    }

    private static String nested(String ahead, int times, String within, String behind) {
        return Desk.times(ahead, times) + within + Desk.times(behind, times);
    }

    private static void depth() {
        is("x", nested("{", 30, "x", "}"));
        is("!-8", nested("{", 31, "x", "}"));
        is("!-3", nested("{", 31, "x", "}").substring(1));
        is("X", nested("\\up{", 30, "x", "}"));
        is("!-8", nested("\\up{", 31, "x", "}"));
        is("x", nested("\\if{}{}{", 29, "{x}", "}{}"));
        is("!-8", nested("\\if{}{}{", 30, "{x}", "}{}"));
        Desk desk = new Desk();
        desk.set("@def b 0 {x}\n@def l 1 \\if{#1}{0}{}{\\l{\\add{#1}{-1}}}");
        Desk.same("a body and a group", "x", desk.told(nested("{", 28, "\\b", "}")));
        Desk.same("one more", "!-8", desk.told(nested("{", 29, "\\b", "}")));
        Desk.same("bodies within choices", "", desk.told("\\l{14}"));
        Desk.same("one more again", "!-8", desk.told("\\l{15}"));
    }

    private static void macros() {
        Desk desk = new Desk();
        Desk.same("set", 0, desk.set("@def b 1 <#1>\n@def two 2 #2#1\n@def z 0\n@def e 0 \n@def o 0 {\n@def s 0 \\\n"
            + "@def h 1 #2\n@def g 0 #1\n@def c 0 }\n@def st 0 *x\n@def n 1 \\b{#1}\\two{#1}{\\b{#1}}"));
        Desk.same("argument", "<x>", desk.told("\\b{x}"));
        Desk.same("within", "<<x>>", desk.told("\\b{\\b{x}}"));
        Desk.same("order", "ba", desk.told("\\two{a}{b}"));
        Desk.same("nothing", "ab", desk.told("a\\z b\\e".replace("\\z b", "\\z{}b")));
        Desk.same("a body's own", "<q><q>q", desk.told("\\n{q}"));
        Desk.same("of a call within an argument", "<X>", desk.told("\\b{\\up{x}}"));
        Desk.same("open group in a body", "!-3", desk.told("\\o}"));
        Desk.same("end of a body", "!-3", desk.told("\\s n"));
        Desk.same("beyond", "!-12", desk.told("\\h{a}"));
        Desk.same("no argument", "!-12", desk.told("\\g"));
        Desk.same("no body", "!-12", desk.told("\\b{#1}"));
        Desk.same("closes none", "!-3", desk.told("{\\c"));
        Desk.same("closes none in it", "!-3", desk.told("{\\c}"));
        Desk.same("missing", "!-5", desk.told("\\two{a}"));
        Desk.same("unknown", "!-4", desk.told("\\B{a}"));
    }

    private static void tell() {
        Desk desk = new Desk();
        Desk.same("how many", 4, desk.tell("a\\ bc"));
        Desk.same("answer", "a bc", desk.answer());
        Desk.same("tape is taken", 0, desk.room.count(0));
        Desk.same("a fault", -3, desk.tell("}"));
        Desk.same("tape is taken", 0, desk.room.count(0));
        Desk.same("the answer stays", "a bc", desk.answer());
        Desk.same("count", 4, desk.room.count(19));
        Desk.same("sign", 98, desk.room.answer(2));
        Desk.same("no sign", -1, desk.room.answer(4));
        Desk.same("below", -1, desk.room.answer(-1));
        Desk.same("far", -1, desk.room.answer(Integer.MAX_VALUE));
        Desk.same("empty", 0, desk.tell(""));
        Desk.same("empty answer", 0, desk.room.count(19));
        desk.set("@def a 0 one\n@def b 0 two\n}");
        Desk.same("macros at a fault", "one two", desk.told("\\a{} \\b"));
        desk.set("= one\nx\\label{k}\n@page\n= two\n# it\\label{m}\n@set first 9\n@set system 2");
        Desk.same("refs of the proof", "1 ix 1 x ??", desk.told("\\ref{k} \\page{k} \\ref{m} \\page{m} \\ref{z}"));
        Desk.same("macros of the latest set", "!-4", desk.told("\\a"));
        desk.write("other");
        Desk.same("of the proof, not the manuscript", "ix", desk.told("\\page{k}"));
        desk.set("}");
        Desk.same("no proof", "??", desk.told("\\page{k}"));
    }
}
