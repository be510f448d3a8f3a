/** TOO MANY of part 2: just as many as may be, and one more. */
public final class ManyEdgeTest {
    private static final int MANY = 9;

    public static void main(String[] args) {
        macros();
        patterns();
        exceptions();
        notes();
        labels();
        indexMarks();
        headings();
        counters();
        cells();
        lines();
        pages();
        Desk.close();
    }

    private static String defined(int many) {
        StringBuilder text = new StringBuilder();
        for (int i = 0; i < many; i++) {
            text.append("@def m").append((char) ('a' + i / 26)).append((char) ('a' + i % 26)).append(" 0\n");
        }
        return text.toString();
    }

    private static void macros() {
        Desk.says("TOO MANY (9; in one round): 40 macros");
        Desk desk = new Desk();
        Desk.same("40 macros", 0, desk.set(defined(40)));
        Desk.same("there", 40, desk.room.count(16));
        Desk.same("41 macros", MANY + 16 * 41, desk.set(defined(41)));
        Desk.same("40 are there", 40, desk.room.count(16));
        Desk.same("told again", 0, desk.set(defined(40) + defined(40)));
        Desk.same("in each round anew", 0, desk.set(defined(40) + "= h"));
        Desk.same("1 ahead of 9", 1 + 16 * 41, desk.set(defined(40) + "@def x"));
        Desk.same("known ones aside", 2 + 16 * 42, desk.set(defined(40) + "@def maa 0 y\n}"));
    }

    private static void patterns() {
        Desk.says("120 patterns");
        Desk desk = new Desk();
        Desk.same("120 patterns", 0, desk.set("@pat a" + Desk.times(" b", 59) + "\n@pat c" + Desk.times(" b", 59)));
        Desk.same("there, each time that it is told", 120, desk.room.count(17));
        Desk.same("121 patterns", MANY + 16 * 2, desk.set("@pat a" + Desk.times(" b", 119) + "\n@pat c"));
        Desk.same("120 are there", 120, desk.room.count(17));
        Desk.same("in one directive", MANY + 16, desk.set("@pat a" + Desk.times(" b", 120)));
        Desk.same("those ahead are there", 120, desk.room.count(17));
        Desk.same("in each round anew", 0, desk.set("@pat a" + Desk.times(" b", 119) + "\n= h"));
        Desk.says("all of them are looked at ahead of 9.");
        Desk.same("the last is none", 1 + 16, desk.set("@pat a" + Desk.times(" b", 120) + " 1"));
        Desk.same("none came", 0, desk.room.count(17));
        Desk.same("behind 120", 1 + 16 * 2, desk.set("@pat a" + Desk.times(" b", 119) + "\n@pat 1"));
    }

    private static void exceptions() {
        Desk.says("60 exceptions");
        Desk desk = new Desk();
        Desk.same("60 exceptions", 0, desk.set("@word ab" + Desk.times(" a-b", 59)));
        Desk.same("there", 60, desk.room.count(18));
        Desk.same("61 exceptions", MANY + 16 * 2, desk.set("@word ab" + Desk.times(" ab", 59) + "\n@word ab"));
        Desk.same("60 are there", 60, desk.room.count(18));
        Desk.same("in each round anew", 0, desk.set("@word ab" + Desk.times(" ab", 59) + "\n= h"));
        Desk.same("the last is none", 1 + 16, desk.set("@word ab" + Desk.times(" ab", 60) + " a"));
        Desk.same("none came", 0, desk.room.count(18));
        Desk.same("behind 60", 1 + 16 * 2, desk.set("@word ab" + Desk.times(" ab", 59) + "\n@word a"));
    }

    private static void notes() {
        Desk.says("60 notes");
        Desk desk = new Desk();
        String some = "x" + Desk.times("\\note{}", 30);
        Desk.same("60 notes", 0, desk.set(some + "\n\n" + some));
        Desk.same("there", 60, desk.room.count(4));
        Desk.same("61 notes", MANY + 16 * 5, desk.set(some + "\n\n" + some + "\n\n\\note{}"));
        Desk.same("in each round anew", 0, desk.set(some + some + "\\label{k}"));
        Desk.same("of each set", 60, desk.room.count(4));
        Desk.same("its text ahead of 9", 3 + 16, desk.set(some + some + "\\note{\\zz}"));
    }

    private static String marks(String ahead, int many) {
        StringBuilder text = new StringBuilder("x");
        for (int i = 0; i < many; i++) {
            text.append(ahead).append(i).append('}');
        }
        return text.toString();
    }

    private static void labels() {
        Desk.says("60 labels");
        Desk desk = new Desk();
        Desk.same("60 labels", 0, desk.set(marks("\\label{", 60)));
        Desk.same("there", 60, desk.room.count(7));
        Desk.same("two rounds", 2, desk.room.count(9));
        Desk.same("61 labels", MANY + 16, desk.set(marks("\\label{", 61)));
    }

    private static void indexMarks() {
        Desk.says("100 index marks");
        Desk desk = new Desk();
        Desk.same("100 index marks", 0, desk.set(marks("\\index{", 50) + "\n\n" + marks("\\index{", 50)));
        Desk.same("keys", 50, desk.room.count(6));
        Desk.same("101 index marks", MANY + 16 * 3, desk.set(marks("\\index{", 50) + "\n\n" + marks("\\index{", 51)));
        Desk.same("5 ahead of 9", 5 + 16, desk.set(marks("\\index{", 100) + "\\index{ }"));
    }

    private static void headings() {
        Desk.says("60 headings (as it begins)");
        Desk desk = new Desk();
        Desk.same("60 headings", 0, desk.set(Desk.times("=== a\n", 60)));
        Desk.same("there", 60, desk.room.count(5));
        Desk.same("61 headings", MANY + 16 * 61, desk.set(Desk.times("=== a\n", 61)));
        Desk.same("as it begins, ahead of its text", MANY + 16 * 61, desk.set(Desk.times("= a\n", 60) + "= }"));
        Desk.same("other faults ahead of it", 2 + 16 * 61, desk.set(Desk.times("= a\n", 60) + "}\n= a"));
    }

    private static void counters() {
        Desk.says("20 counters");
        Desk desk = new Desk();
        String some = marks("\\step{", 20).replace("}", "}{1}");
        Desk.same("20 counters", 0, desk.set(some));
        Desk.same("21 counters", MANY + 16, desk.set(some + "\\step{x}{1}"));
        Desk.same("known ones go on", 0, desk.set(some + "\\step{1}{1}\\step{19}{1}"));
        Desk.same("show makes none", 0, desk.set(some + "\\show{x}{1}\\show{y}{1}"));
        Desk.same("a key of none ahead of 9", 5 + 16, desk.set(some + "\\step{}{1}"));
        Desk.same("a system of none ahead of 9", 5 + 16, desk.set(some + "\\step{x}{6}"));
        Desk.same("in each round anew", 0, desk.set(some + "\\label{k}"));
        Desk.same("told: 20", "x" + Desk.times("1", 20), desk.told(some));
        Desk.same("told: 21", "!-10", desk.told(some + "\\step{x}{1}"));
    }

    private static void cells() {
        Desk.says("8 cells of a table's line (ahead of their texts)");
        Desk desk = new Desk();
        Desk.same("8 cells", 0, desk.set(Desk.times("|a", 8)));
        Desk.same("an empty last one doesn't count", 0, desk.set(Desk.times("|a", 8) + "|  "));
        Desk.same("9 cells", MANY + 16, desk.set(Desk.times("|a", 9)));
        Desk.same("9 cells without texts", MANY + 16, desk.set(Desk.times("| ", 9) + "|"));
        Desk.same("9 of alignment", MANY + 16, desk.set(Desk.times("|<", 9)));
        Desk.same("8 of alignment", 0, desk.set(Desk.times("|<", 8) + "\n|a"));
        Desk.same("ahead of their texts", MANY + 16, desk.set("|}" + Desk.times("|a", 8)));
        Desk.same("behind those of the line ahead", 2 + 16, desk.set("|a|}\n" + Desk.times("|a", 9)));
        Desk.same("of a line, not of a table", 0, desk.set(Desk.times(Desk.times("|a", 8) + "\n", 20)));
        Desk.same("the block's line", MANY + 16 * 2, desk.set("\n|a\n|b\n" + Desk.times("|a", 9)));
        desk.set("|a|b\n" + Desk.times("|a", 9));
        Desk.same("work of the first line's cells", 2 + 15 + 32, desk.room.count(13));
    }

    private static void lines() {
        Desk.says("1,500 lines made (ahead of 8)");
        Desk desk = new Desk();
        String some = "@set high 60\n" + Desk.times(">\n", 1499);
        Desk.same("1,500 lines", 0, desk.set(some + ">\n"));
        Desk.same("there", 1500, desk.room.count(12));
        Desk.same("1,501 lines", MANY + 16 * 2, desk.set(some + ">\n>\n"));
        Desk.same("spent", 1502 + 15 + 15 + 30000, desk.room.count(13));
        Desk.same("a note's, too", MANY + 16 * 1501, desk.set(some + "a\\note{b}"));
        Desk.same("1,500 with a note's", 0, desk.set(some.substring(0, some.length() - 2) + "a\\note{b}"));
        Desk.same("of a paragraph", MANY + 16 * 1501, desk.set(some + "\\rep{41}{a}"));
        desk.spend(400000 - (1502 + 15 + 15 + 30000));
        Desk.same("ahead of 8", MANY + 16 * 2, desk.set(some + ">\n>\n"));
        Desk.same("all is spent", 400000, desk.room.count(14));
    }

    private static void pages() {
        Desk.says("99 pages (the last block's LINE, a directive's, too): one more.");
        Desk desk = new Desk();
        String some = Desk.times(">x\n@page\n", 98);
        Desk.same("99 pages", 0, desk.set(some + ">x\n@page\n"));
        Desk.same("there", 99, desk.room.pages());
        Desk.same("100 pages", MANY + 16 * 199, desk.set(some + ">x\n@page\n>x"));
        Desk.same("the last block's line", MANY + 16 * 199, desk.set(some + ">x\n@page\n>x\n>y"));
        Desk.same("a directive's, too", MANY + 16 * 200, desk.set(some + ">x\n@page\n>x\n@set wide 20\n\n \n"));
        Desk.same("a block's without lines, too", MANY + 16 * 201, desk.set(some + ">x\n@page\n>x\n\n\\rep{0}{x}\n"));
        Desk.same("behind all blocks", 2 + 16 * 200, desk.set(some + ">x\n@page\n>x\n}"));
        Desk.same("of full pages", 0, desk.set("@set high 5\n" + Desk.times(">\n", 495)));
        Desk.same("one line more", MANY + 16 * 2, desk.set("@set high 5\n" + Desk.times(">\n", 496)));
        Desk.same("in a later round", MANY + 16 * 4, desk.set("@set high 5\n@toc\n= a\n" + Desk.times(">\n", 493)));
    }
}
