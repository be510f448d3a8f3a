/** The edges of part 2 that FAULTS name, kind by kind, and which of two is met first. */
public final class FaultsEdgeTest {
    public static void main(String[] args) {
        numbersOfFaults();
        firstThatIsMet();
        closing();
        unknownCalls();
        missing();
        wanted();
        marks();
        depth();
        depthAndWork();
        twice();
        hashes();
        orderOfACall();
        Desk.close();
    }

    private static void is(String due, String text) {
        Desk.same(text, due, Desk.toldNew(text));
    }

    private static void fails(String due, String text) {
        Desk.same(text, "fault " + due, Desk.setNew(text));
    }

    private static void numbersOfFaults() {
        Desk.says("FAULTS (kind + 16 * the block's LINE; the first one that is met, as blocks are gone through, round by round)");
        Desk desk = new Desk();
        Desk.same("1", 1 + 16, desk.set("@x"));
        Desk.same("2", 2 + 16 * 2, desk.set("\n}"));
        Desk.same("3", 3 + 16 * 3, desk.set("a\n\n\\zz"));
        Desk.same("4", 4 + 16, desk.set("\\up"));
        Desk.same("5", 5 + 16, desk.set("\\rep{x}{}"));
        Desk.same("6", 6 + 16, desk.set("= \\note{}"));
        Desk.same("7", 7 + 16 * 2, desk.set("@def l 0 \\l\n\\l"));
        Desk.same("8", 8 + 16, desk.set("\\rep{50}{\\rep{50}{" + Desk.times("x", 30) + "}}"));
        Desk.same("9", 9 + 16, desk.set(Desk.times("|x", 9)));
        Desk.same("10", 10 + 16, desk.set("x\\label{a}\\label{a}"));
        Desk.same("11", 11 + 16, desk.set("#1"));
        Desk.same("a line far down", 2 + 16 * 3999, desk.set(Desk.times("\n", 3998) + "}"));
    }

    private static void firstThatIsMet() {
        Desk.says("1 a directive that isn't as told.");
        fails("1@2", "a\n@x\n}");
        fails("1@1", "@set wide 81\n}");
        fails("1@1", "@def up 0\n}");
        fails("1@1", "@pat 1\n}");
        fails("1@1", "@word a\n}");
        fails("1@1", "@toc \n}");
        Desk.says("8 WORK. 9 too many.");
        fails("8@1", "\\rep{50}{\\rep{50}{" + Desk.times("x", 24) + "}}");
        fails("9@1", Desk.times("|", 10) + "x");
        Desk.says("the first one that is met, as blocks are gone through, round by round)");
        fails("3@1", "\\zz}\n\n}");
        fails("2@1", "}\n@x");
        fails("1@1", "@x\n}");
        // The first round doesn't know the label; the second takes the other part.
        fails("3@1", "\\if{\\page{k}}{??}{a}{\\zz}\\label{k}\n\n\\if{\\page{k}}{??}{b}{\\up}");
        fails("2@3", "\\if{\\page{k}}{??}{a}{\\zz}\\label{k}\n\n}");
        Desk desk = new Desk();
        desk.set("a\\label{k}");
        Desk.same("fault", 2 + 16 * 3, desk.set("a\\label{k}\n\n}"));
        desk.feed("k");
        Desk.same("no proof behind a fault", -1, desk.room.labelled());
        Desk.same("what it had told is gone", "??", desk.told("\\page{k}"));
    }

    private static void closing() {
        Desk.says("2 a { of a group, an argument that isn't closed in its TEXT (within an argument, a group, a BODY: in that); "
            + "a } that closes none; a \\ at the end.");
        is("!-3", "{");
        is("!-3", "{a");
        is("!-3", "{{a}");
        is("!-3", "\\up{");
        is("!-3", "\\up{a");
        is("!-3", "}");
        is("!-3", "{}}");
        is("!-3", "a}");
        is("!-3", "\\");
        is("!-3", "a\\");
        is("\\", "\\\\");
        fails("2@1", "{a\n\n}");
        fails("2@1", "= {a");
        fails("2@1", "- {a\nb}");
        fails("2@1", "|{a|b}|{");
        fails("2@1", "|a\\");
        Desk desk = new Desk();
        desk.set("@def o 0 {\n@def c 0 }\n@def e 0 \\\n@def a 0 \\up{\n@def w 1 #1");
        Desk.same("a group in a body", "!-3", desk.told("{\\o}}"));
        Desk.same("a } in a body", "!-3", desk.told("{\\c"));
        Desk.same("a } in a body in a group", "!-3", desk.told("{\\c}"));
        Desk.same("a \\ at a body's end", "!-3", desk.told("\\e n"));
        Desk.same("an argument in a body", "!-3", desk.told("\\a x}"));
        Desk.same("a group in a body alone", "!-3", desk.told("\\o"));
        Desk.same("a body ends where it ends: a name", "  x/=", desk.shown("@def b 0 x\n@def a 0 \\b\n@def c 0 yz\n\\a"));
        Desk.same("an argument", "fault 4@3", desk.shown("@def a 0 \\up\n@def b 0 {x}\n\\a"));
        Desk.same("a brace", "fault 2@3", desk.shown("@def a 0 \\up{x\n@def b 0 }\n\\a"));
        Desk.same("a #", "fault 11@3", desk.shown("@def a 1 #\n@def b 0 1\n\\a{x}"));
        Desk.same("a \\", "fault 2@3", desk.shown("@def a 0 \\\n@def b 0 x\n\\a"));
        desk.set("@def w 1 #1");
        Desk.same("signs of a row aren't worked again", "{}", desk.told("\\w{\\{\\}}"));
    }

    private static void unknownCalls() {
        Desk.says("3 a call that there is not.");
        is("!-4", "\\x");
        is("!-4", "\\x{");
        is("!-4", "\\notes{a}");
        fails("3@1", "= \\x");
        fails("3@1", "- \\x");
        fails("3@1", "|\\x");
        fails("3@1", "\\m\n@def m 0");
    }

    private static void missing() {
        Desk.says("4 an argument is missing ({ doesn't stand there).");
        for (String name : new String[] {"up", "low", "cap", "rev", "len", "ref", "page"}) {
            is("!-5", "\\" + name);
            is("!-5", "\\" + name + " {a}");
            is("!-5", "\\" + name + "}");
        }
        for (String name : new String[] {"rot", "rep", "word", "at", "add", "mul", "num", "step", "show"}) {
            is("!-5", "\\" + name);
            is("!-5", "\\" + name + "{1}");
            is("!-5", "\\" + name + "{1}x{1}");
        }
        is("!-5", "\\sub{1}{1}");
        is("!-5", "\\if{1}{1}{1}");
        fails("4@1", "x\\label");
        fails("4@1", "x\\index");
        fails("4@1", "x\\note");
        fails("4@1", "|\\up|{a}");
    }

    private static void wanted() {
        Desk.says("5 a number, key, system is wanted and none is there, or one beyond what is told.");
        is("!-6", "\\rep{}{a}");
        is("!-6", "\\rep{51}{a}");
        is("!-6", "\\sub{a}{1}{x}");
        is("!-6", "\\sub{1}{-1}{x}");
        is("!-6", "\\num{1}{6}");
        is("!-6", "\\ref{-}");
        is("!-6", "\\show{abcdefghijklm}{1}");
        is("!-6", "\\sub{0}{1}{\\ref{}}");
        is("!-6", "\\if{a}{\\page{}}{}{}");
        is("!-6", "\\sub{0}{1}{\\show{}{1}}");
        is("!-6", "\\sub{0}{1}{\\rep{}{a}}");
        fails("5@1", "x\\index{}");
        fails("5@1", "x\\index{  }");
        fails("5@1", "x\\label{ a}");
    }

    private static void marks() {
        Desk.says("6 a mark where none may be (as its NAME is read).");
        is("!-7", "\\label");
        is("!-7", "\\index");
        is("!-7", "\\note");
        is("!-7", "\\label{");
        fails("6@1", "= \\note");
        fails("6@1", "|\\note");
        fails("6@1", "|\\label");
        fails("6@1", "|\\index");
        fails("6@1", "x\\up{\\index}");
    }

    private static String nested(String ahead, int times, String within, String behind) {
        return Desk.times(ahead, times) + within + Desk.times(behind, times);
    }

    private static void depth() {
        Desk.says("7 more than 30 within one another of: groups, arguments that are worked, BODIES, if's third, fourth ones "
            + "(as it begins, ahead of 8).");
        is("x", nested("{", 30, "x", "}"));
        is("!-8", nested("{", 31, "x", "}"));
        is("X", nested("\\up{", 30, "x", "}"));
        is("!-8", nested("\\up{", 31, "x", "}"));
        is("x", nested("\\if{}{}{", 30, "x", "}{}"));
        is("!-8", nested("\\if{}{}{", 31, "x", "}{}"));
        is("x", nested("\\if{}{a}{}{", 30, "x", "}"));
        is("!-8", nested("\\if{}{a}{}{", 31, "x", "}"));
        is("x", nested("\\if{}{}{}{", 0, "x", "}") + nested("\\if{}{}{}{", 31, "\\zz", "}"));
        is("!-8", nested("{", 30, "\\if{}{}{x}{}", "}"));
        is("!-8", nested("{", 30, "\\up{}", "}"));
        is("!-8", nested("{", 30, "{}", "}"));
        is("1", nested("{", 29, "\\len{x}", "}"));
        is("xx", nested("{", 30, "x", "}") + nested("{", 30, "x", "}"));
        is("!-3", nested("{", 31, "x", "}").substring(1));
        Desk desk = new Desk();
        StringBuilder chain = new StringBuilder("@def ma 0 x\n");
        for (char name = 'b'; name <= 'z'; name++) {
            chain.append("@def m").append(name).append(" 0 \\m").append((char) (name - 1)).append('\n');
        }
        desk.set(chain.toString());
        Desk.same("bodies: 26 and 4 groups", "x", desk.told(nested("{", 4, "\\mz", "}")));
        Desk.same("bodies: 26 and 5 groups", "!-8", desk.told(nested("{", 5, "\\mz", "}")));
        desk.set("@def o 0 {\n@def u 0 \\up{x\n@def e 0 ");
        Desk.same("its } is looked for first", "!-3", desk.told(nested("{", 29, "\\o", "}")));
        Desk.same("an argument's, too", "!-3", desk.told(nested("{", 29, "\\u", "}")));
        Desk.same("an argument that is missing", "!-5", desk.told(nested("{", 30, "\\up", "}")));
        Desk.same("a call that there is not", "!-4", desk.told(nested("{", 30, "\\zz", "}")));
        Desk.same("a body of nothing as the 30th", "", desk.told(nested("{", 29, "\\e", "}")));
        Desk.same("as the 31st", "!-8", desk.told(nested("{", 30, "\\e", "}")));
        Desk.same("in headings, too", "fault 7@1", desk.shown("= " + nested("{", 31, "x", "}")));
        Desk.same("in cells, too", "fault 7@1", desk.shown("|" + nested("{", 31, "x", "}")));
        Desk.same("30 in cells", "x/-/=", desk.shown("|" + nested("{", 30, "x", "}")));
        Desk.same("30 in headings", "1 x/=", desk.shown("= " + nested("{", 30, "x", "}")));
        Desk.same("30 in paragraphs", "  x/=", desk.shown(nested("{", 30, "x", "}")));
        Desk.same("31 in paragraphs", "fault 7@1", desk.shown(nested("{", 31, "x", "}")));
    }

    /** With no work left but 4, the thirtieth group is fault 8, the next one would be 7 ahead of it. */
    private static void depthAndWork() {
        String heavy = Desk.times("\\rep{50}{" + Desk.times("x", 40) + "}", 28);
        int left = 60000 - 28 * 2072;
        Desk desk = new Desk();
        Desk.same("8 as the 30th begins", -9, desk.tell(heavy + fillUp(left - 29 * 5 - 4) + nested("{", 30, "", "}")));
        Desk.same("spent up to it", 60000 - 4, desk.room.count(14));
        Desk other = new Desk();
        Desk.same("7 as the 31st begins", -8, other.tell(heavy + fillUp(left - 30 * 5 - 4) + nested("{", 31, "", "}")));
        Desk.same("spent up to it", 60000 - 4, other.room.count(14));
    }

    /** A text that costs just so much, of few signs: a rep costs 20, its arguments 10, what is in them, and what it gives. */
    private static String fillUp(int work) {
        int each = 20 + 10 + 2 + 20 + 20 * 40;
        int rest = work - each;
        return "\\rep{40}{" + Desk.times("y", 20) + "}" + Desk.times("z", rest);
    }

    private static void twice() {
        Desk.says("10 a label's KEY that was told in this round.");
        fails("10@1", "a\\label{k}\\label{k}");
        fails("10@3", "a\\label{k}\n\n= b\\label{k}");
        Desk desk = new Desk();
        Desk.same("great and small are two", 0, desk.set("a\\label{k}\\label{K}"));
        Desk.same("each round anew", 2, desk.room.count(9));
        Desk.same("an index mark's is none", 0, desk.set("a\\label{k}\\index{k}\\index{k}"));
        Desk.same("nor is a counter's", 0, desk.set("a\\label{k}\\step{k}{1}"));
    }

    private static void hashes() {
        Desk.says("11 a # that isn't as told (no digit, 0, beyond its macro's number, in no BODY).");
        is("!-12", "#");
        is("!-12", "a#");
        is("!-12", "#a");
        is("!-12", "#1");
        is("!-12", "#0");
        is("!-12", "#/");
        is("!-12", "#:");
        is("!-12", "{#1}");
        is("!-12", "\\up{#1}");
        is("#1", "\\#1");
        Desk desk = new Desk();
        desk.set("@def a 2 #1#2\n@def b 2 #3\n@def c 2 #0\n@def d 2 #\n@def e 2 #x\n@def f 0 #1\n@def g 2 {#}1\n@def h 9 #9\n@def i 1 #11");
        Desk.same("as told", "xy", desk.told("\\a{x}{y}"));
        Desk.same("beyond its number", "!-12", desk.told("\\b{x}{y}"));
        Desk.same("0", "!-12", desk.told("\\c{x}{y}"));
        Desk.same("no digit at the end", "!-12", desk.told("\\d{x}{y}1"));
        Desk.same("no digit", "!-12", desk.told("\\e{x}{y}"));
        Desk.same("signs beside the digits", "fault 11@2 fault 11@2", desk.shown("@def p 9 #/\n" + nine("p")) + " "
            + desk.shown("@def p 9 #:\n" + nine("p")));
        desk.set("@def f 0 #1\n@def g 2 {#}1\n@def h 9 #9\n@def i 1 #11\n@def a 2 #1#2");
        Desk.same("a macro of none", "!-12", desk.told("\\f"));
        Desk.same("at a group's end", "!-12", desk.told("\\g{x}{y}"));
        Desk.same("9", "9", desk.told("\\h{1}{2}{3}{4}{5}{6}{7}{8}{9}"));
        Desk.same("one digit alone", "x1", desk.told("\\i{x}"));
        Desk.same("in an argument given from no body", "!-12", desk.told("\\a{#1}{y}"));
        Desk.same("behind a body", "!-12", desk.told("\\a{x}{y}#1"));
        Desk.same("a body's number is its own", "fault 11@3", desk.shown("@def p 0 #1\n@def q 1 \\p\n\\q{x}"));
        Desk.same("it is back behind a body within", "  yx/=", desk.shown("@def p 0 y\n@def q 1 \\p#1\n\\q{x}"));
    }

    private static String nine(String name) {
        return "\\" + name + Desk.times("{x}", 9);
    }

    private static void orderOfACall() {
        Desk.says("In a call's order come: its WORK (8), 3, 6, its arguments found (4, 2), worked, what it asks of them (5), 10, 9.");
        is("!-7", "\\label x");
        is("!-5", "\\add{}x{");
        is("!-3", "\\add{}{");
        is("!-5", "\\add{\\zz}");
        is("!-3", "\\add{\\zz}{");
        is("!-4", "\\add{}{\\zz}");
        is("!-6", "\\sub{-1}{}{}");
        is("!-12", "\\rep{51}{#1}");
        fails("3@1", "a\\label{k}\\label{\\zz}");
        fails("5@1", "a\\label{k}\\label{}");
        Desk desk = new Desk();
        Desk.same("5 ahead of 10 and 9", "fault 5@1", desk.shown("a" + labels(60) + "\\label{-}"));
        Desk.same("10 ahead of 9", "fault 10@1", desk.shown("a" + labels(60) + "\\label{k1}"));
        Desk.same("9", "fault 9@1", desk.shown("a" + labels(60) + "\\label{x}"));
        desk.spend( 400000 - 19);
        Desk.same("8 ahead of 3", -9, desk.tell("\\zz"));
        Desk.same("isn't spent", 400000 - 19, desk.room.count(14));
        Desk.same("8 ahead of 6", -9, desk.tell("\\label"));
        Desk.same("a sign is", 1, desk.tell("x"));
        Desk other = new Desk();
        other.spend( 400000 - 20);
        Desk.same("3 with just its work", -4, other.tell("\\zz"));
        Desk.same("spent", 400000, other.room.count(14));
    }

    private static String labels(int many) {
        StringBuilder text = new StringBuilder();
        for (int i = 1; i <= many; i++) {
            text.append("\\label{k").append(i).append('}');
        }
        return text.toString();
    }
}
