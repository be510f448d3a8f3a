/** WORK of part 2, to the number, and its limits. */
public final class WorkTest {
    public static void main(String[] args) {
        told();
        blocks();
        lines();
        rounds();
        limitOfOne();
        limitEver();
        madeLines();
        partOfDirective();
        roundThatCannotBegin();
        Desk.close();
    }

    private static void tells(int due, String text) {
        Desk desk = new Desk();
        desk.tell(text);
        Desk.same("work of " + text, due, desk.room.count(14));
    }

    private static void told() {
        tells(0, "");
        tells(3, "a b");
        tells(1, "*\\ *");
        tells(6, "{a}");
        tells(10, "{{}}");
        tells(20 + 5 + 1 + 1, "\\up{a}");
        tells(20 + 5 + 1 + 5 + 2 + 6, "\\rep{3}{ab}");
        tells(20 + 5 + 3 + 1, "\\len{abc}");
        tells(20 + 5 + 1 + 5 + 1 + 5 + 2, "\\if{a}{a}{yy}{nnn}");
        tells(20, "\\zz");
        tells(20, "\\up");
        tells(20, "\\label{a}");
        tells(20 + 5 + 1 + 2, "\\ref{a}");
        tells(0, "{a");
        tells(1, "a}");
        tells(20 + 5 + 2 + 5 + 1, "\\rep{51}{x}");
        tells(30 * 5, Desk.times("{", 31) + Desk.times("}", 31));
    }

    private static void sets(int due, String text) {
        Desk desk = new Desk();
        desk.set(text);
        Desk.same("work of " + text, due, desk.room.count(13));
        Desk.same("ever", due, desk.room.count(14));
    }

    private static void blocks() {
        sets(0, "");
        sets(3, "\n\n \n");
        sets(1 + 15, "@set wide 20");
        sets(2 + 15, "\n@foo");
        sets(1 + 15 + 10 + 10, "@pat a b");
        sets(1 + 15 + 10, "@word ab");
        sets(1 + 15 + 20, "\\zz");
        sets(2 + 15 + 15 + 20 + 5 + 1 + 5 + 1 + 20 + 1 + 2, "@def b 1 #1\n\\b{x}");
        sets(1 + 15 + 1 + 5, "a{}}");
    }

    private static void lines() {
        sets(1 + 15 + 3 + 20 + 5, "a b");
        sets(2 + 15 + 1 + 1 + 1 + 20 + 5, "a\nb");
        sets(1 + 15 + 20 + 2, ">ab");
        sets(1 + 15 + 1 + 20 + 3, "- a");
        sets(1 + 15 + 20 + 1, "- ");
        sets(1 + 15 + 15 + 1 + 15 + 2 + 20 + 6 + 20 + 6, "|a|bb");
        sets(2 + 15 + 15 + 1 + 20 + 1 + 20 + 1, "|>\n|a");
        sets(1 + 15 + 1 + 20 + 5 + 1 + 3 + 20 + 6 + 20 + 4, "a\\note{b}");
    }

    private static void rounds() {
        sets(2 * (1 + 15 + 1 + 20 + 3), "= a");
        sets(2 * (2 + 15 + 1 + 20 + 3 + 15) + 20 + 40, "= a\n@toc");
        sets(2 * (2 + 15 + 1 + 20 + 5 + 1 + 20 + 3 + 15) + 20 + 4, "a\\index{k}\n@index");
    }

    private static void limitOfOne() {
        Desk desk = new Desk();
        // A call 20, its arguments 10, its number 2, its text 40: 50 times 40 come to the row.
        String heavy = "\\rep{50}{" + Desk.times("x", 40) + "}";
        Desk.same("28 of them", 28 * 2000, desk.tell(Desk.times(heavy, 28)));
        Desk.same("spent", 28 * 2072, desk.room.count(14));
        Desk.same("29", -9, desk.tell(Desk.times(heavy, 29)));
        Desk.same("up to the limit", 28 * 2072 + 60000, desk.room.count(14));
        String rest = Desk.times(heavy, 28) + "\\rep{49}{" + Desk.times("y", 38) + "}" + Desk.times("z", 52);
        Desk.same("just 60,000", 28 * 2000 + 49 * 38 + 52, desk.tell(rest));
        Desk.same("one more", -9, desk.tell(rest + "z"));
        Desk.same("a call isn't spent", -9, desk.tell(rest.substring(0, rest.length() - 10) + "\\up{a}"));
        Desk.same("its ten are left", 28 * 2072 + 60000 * 3 + 59990, desk.room.count(14));
        Desk.same("of its own", 0, desk.room.count(13));
        Desk again = new Desk();
        Desk.same("a set", 8 + 16 * 2, again.set("\n" + Desk.times(heavy, 29)));
        Desk.same("spent in it", 60000, again.room.count(13));
        Desk.same("a line", 8 + 16, again.set(Desk.times(heavy, 20)));
        Desk.same("isn't spent", true, again.room.count(13) < 60000 && again.room.count(13) > 60000 - 60);
    }

    private static void limitEver() {
        Desk desk = new Desk();
        String heavy = "\\rep{50}{\\rep{20}{" + Desk.times("x", 25) + "}}";
        for (int i = 0; i < 20 && desk.room.count(14) < 380000; i++) {
            desk.tell(heavy);
        }
        int left = 400000 - desk.room.count(14);
        Desk.same("not so much left", true, left < 27000);
        Desk.same("tell", -9, desk.tell(heavy));
        Desk.same("all is spent", 400000, desk.room.count(14));
        Desk.same("a round", 8, desk.set("\nx"));
        Desk.same("none of it", 0, desk.room.count(13));
        Desk.same("nothing wants none", 0, desk.set(""));
        Desk.same("a proof", 0, desk.room.pages());
        Desk.same("tell of a sign", -9, desk.tell("x"));
        Desk.same("tell of none", 0, desk.tell(""));
    }

    private static void madeLines() {
        Desk desk = new Desk();
        // 1,500 lines of 20 each would be 30,000.
        String many = "@set high 60\n" + Desk.times(">\n", 1500);
        Desk.same("1,500", 0, desk.set(many));
        Desk.same("work", 1501 + 15 + 15 + 1500 * 20, desk.room.count(13));
        Desk.same("one more", 9 + 16 * 1503, desk.set(many + "\n>\n"));
        Desk.same("ahead of its work", 1503 + 15 * 3 + 1500 * 20, desk.room.count(13));
        Desk.same("notes' lines count", 9 + 16 * 1502, desk.set(many.substring(0, many.length() - 2) + "\nx\\note{y}"));
    }

    private static void partOfDirective() {
        Desk desk = new Desk();
        String heavy = Desk.times("\\rep{50}{" + Desk.times("x", 40) + "}", 28) + "\\rep{50}{" + Desk.times("x", 20) + "}";
        int spent = 3 + 15 + 20 + 5 + 28 * 2072 + 1052 + 5 + 5 + 15;
        Desk.same("set", 8 + 16 * 3, desk.set("\\if{" + heavy + "}{}{}{}\n\n@pat" + Desk.times(" ab", 100)));
        Desk.same("patterns that were paid for", (60000 - spent) / 10, desk.room.count(17));
        Desk.same("work", spent + (60000 - spent) / 10 * 10, desk.room.count(13));
    }

    /** A fault at line 0 is behind no directive of its round, whichever round it is. */
    private static void roundThatCannotBegin() {
        Desk desk = new Desk();
        String rules = "@def m 0 z\n@pat a1b\n@word abc-d\n@set left 1\n";
        String heavy = "x\\label{k}\\rep{50}{" + Desk.times("x", 440) + "}\n";
        Desk.same("one round is enough", 0, desk.set(rules + heavy.replace("\\label{k}", "") + Desk.times("\n", 3300)));
        Desk.same("macros", 1, desk.room.count(16));
        Desk.same("a second can't begin", 8, desk.set(rules + heavy + Desk.times("\n", 3300)));
        Desk.same("the first round's work", true, desk.room.count(13) > 60000 - 3305);
        noRules(desk);
        Desk.same("told again", 0, desk.set(rules));
        Desk.same("patterns", 1, desk.room.count(17));
        Desk.same("exceptions", 1, desk.room.count(18));
        for (int i = 0; i < 20 && desk.room.count(14) < 400000; i++) {
            desk.tell("\\rep{50}{\\rep{50}{" + Desk.times("x", 24) + "}}");
        }
        Desk.same("nothing is left", 400000, desk.room.count(14));
        Desk.same("nor the first", 8, desk.room.set());
        noRules(desk);
    }

    private static void noRules(Desk desk) {
        Desk.same("no macros", 0, desk.room.count(16));
        Desk.same("no patterns", 0, desk.room.count(17));
        Desk.same("no exceptions", 0, desk.room.count(18));
        desk.feed("abab");
        Desk.same("no points", 0, desk.room.hyphens());
        desk.feed("abcd");
        Desk.same("nor by an exception", 0, desk.room.hyphens());
        Desk.same("no call", true, desk.tell("\\m") < 0);
    }
}
