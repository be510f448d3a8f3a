/** WORK of part 2: what each thing costs, in which order, and what is left where it doesn't suffice. */
public final class WorkEdgeTest {
    private static final int EVER = 400000;

    public static void main(String[] args) {
        rounds();
        blocks();
        words();
        cells();
        calls();
        insides();
        signs();
        lines();
        headings();
        notes();
        unspent();
        inOneSet();
        inOneTell();
        ever();
        Desk.close();
    }

    /**
     * Sets a text with each amount of work that doesn't suffice, and with just what does. The steps are what the text
     * costs, one behind the other, each as amount@line: the first that doesn't suffice is the fault, and isn't spent.
     */
    private static void costs(String text, String told) {
        costs(text, told, 0);
    }

    /** The same of a text that ends with another fault. */
    private static void costs(String text, String told, int end) {
        String[] steps = told.split(" ");
        int all = 0;
        for (String step : steps) {
            all += Integer.parseInt(step.substring(0, step.indexOf('@')));
        }
        for (int left = 0; left <= all; left++) {
            int spent = 0;
            int fault = 0;
            for (String step : steps) {
                int amount = Integer.parseInt(step.substring(0, step.indexOf('@')));
                if (fault == 0 && spent + amount > left) {
                    fault = 8 + 16 * Integer.parseInt(step.substring(step.indexOf('@') + 1));
                }
                spent += fault == 0 ? amount : 0;
            }
            Desk desk = new Desk();
            desk.spend(EVER - left);
            Desk.same(text + " with " + left, (fault == 0 ? end : fault) + " " + spent, desk.set(text) + " " + desk.room.count(13));
            Desk.same("ever", EVER - left + spent, desk.room.count(14));
        }
    }

    /** The same of a text that is told: amounts alone. */
    private static void tells(String text, String told) {
        String[] steps = told.isEmpty() ? new String[0] : told.split(" ");
        int all = 0;
        for (String step : steps) {
            all += Integer.parseInt(step);
        }
        for (int left = 0; left <= all; left++) {
            int spent = 0;
            boolean fault = false;
            for (String step : steps) {
                fault = fault || spent + Integer.parseInt(step) > left;
                spent += fault ? 0 : Integer.parseInt(step);
            }
            Desk desk = new Desk();
            desk.spend(EVER - left);
            Desk.same(text + " with " + left, fault, desk.tell(text) == -9);
            Desk.same("ever", EVER - left + spent, desk.room.count(14));
        }
    }

    private static void rounds() {
        Desk.says("WORK: a round as many as the MANUSCRIPT has lines (ahead of all else; its FAULT's LINE is 0)");
        costs("", "0@0");
        costs("\n\n  \n", "3@0");
        costs("@x", "1@0 15@1", 1 + 16);
        costs("a\\label{k}", "1@0 15@1 1@1 20@1 5@1 1@1 23@1 1@0 15@1 1@1 20@1 5@1 1@1 23@1");
    }

    private static void blocks() {
        Desk.says("a block 15 (as it begins)");
        costs("@set wide 20\n@page\n@toc\n@index", "4@0 15@1 15@2 15@3 15@4");
        costs("\n}", "2@0 15@2", 2 + 16 * 2);
        costs(">ab\n>\n\n>c", "4@0 15@1 22@1 20@1 15@4 21@4");
    }

    private static void words() {
        Desk.says("a pattern, an exception 10 (behind 9, ahead of its being there)");
        costs("@pat a1b c\n@word ab a-b", "2@0 15@1 10@1 10@1 15@2 10@2 10@2");
        for (int left = 17; left < 57; left++) {
            Desk desk = new Desk();
            desk.spend(EVER - left);
            desk.set("@pat a1b c d1\n@word ab a-b");
            Desk.same("patterns that are there with " + left, Math.min(3, (left - 17) / 10), desk.room.count(17));
        }
        Desk desk = new Desk();
        desk.spend(EVER - (2 + 15 + 1200 + 15));
        Desk.same("9 ahead of 8", 9 + 16 * 2, desk.set("@pat a" + Desk.times(" b", 119) + "\n@pat a"));
        Desk other = new Desk();
        other.spend(EVER - (2 + 15 + 600 + 15));
        Desk.same("9 ahead of 8, exceptions", 9 + 16 * 2, other.set("@word ab" + Desk.times(" bc", 59) + "\n@word ab"));
        Desk wrong = new Desk();
        wrong.spend(EVER - 16);
        Desk.same("1 ahead of 8", 1 + 16, wrong.set("@pat a b 1"));
        costs("@def a 0 x", "1@0 15@1");
    }

    private static void cells() {
        Desk.says("a table's cell 15 (as it is come to)");
        costs("|a|bb\n|{c}", "2@0 15@1 15@1 1@1 15@1 1@1 1@1 15@1 5@1 1@1 26@1 26@1 23@1");
        costs("||}|x", "1@0 15@1 15@1 15@1", 2 + 16);
        costs("|", "1@0 15@1");
    }

    private static void calls() {
        Desk.says("a call 20 (as its NAME was read, known or not)");
        tells("\\zz", "20");
        tells("\\up", "20");
        tells("\\up{a", "20");
        tells("\\label{a}", "20");
        tells("a\\zz", "1 20");
    }

    private static void insides() {
        Desk.says("a group, an argument that is worked, a BODY, if's third or fourth 5 (as it begins)");
        tells("{}", "5");
        tells("{a{b}}", "5 1 5 1");
        tells("\\up{}", "20 5");
        tells("\\rep{2}{ab}", "20 5 1 5 1 1 1 1 1 1");
        tells("\\if{a}{a}{yy}{n}", "20 5 1 5 1 5 1 1");
        tells("\\if{a}{b}{yy}{n}", "20 5 1 5 1 5 1");
        costs("@def b 2 <#1>\n\\b{x}{}", "2@0 15@1 15@2 20@2 5@2 1@2 5@2 5@2 1@2 1@2 1@2 25@2");
        costs("@def e 0\n\\e", "2@0 15@1 15@2 20@2 5@2");
        tells("{a", "");
    }

    private static void signs() {
        Desk.says("each sign that comes to a row 1");
        tells("a b", "1 1 1");
        tells("*a_\\*\\ ", "1 1 1");
        tells("\\len{abc}", "20 5 1 1 1 1");
        tells("\\num{888}{2}", "20 5 1 1 1 5 1" + Desk.times(" 1", 12));
        tells("\\ref{ab}", "20 5 1 1 1 1");
        tells("\\sub{1}{1}{abc}", "20 5 1 5 1 5 1 1 1 1");
        tells("\\step{k}{1}", "20 5 1 5 1 1");
        costs("a\\index{b}", "1@0 15@1 1@1 20@1 5@1 1@1 23@1 1@0 15@1 1@1 20@1 5@1 1@1 23@1");
    }

    private static void lines() {
        Desk.says("20 and 1 for each of its signs (a heading's number counts there alone).");
        costs("@set wide 12\n@set indent 0\naaaaaaa bbbbbb", "3@0 15@1 15@2 15@3" + Desk.times(" 1@3", 14) + " 27@3 26@3");
        costs("- a\n- ", "2@0 15@1 1@1 23@1 15@2 21@2");
        costs("- a\n  b", "2@0 15@1 1@1 1@1 1@1 1@1 1@1 25@1");
        costs("\\rep{0}{x}", "1@0 15@1 20@1 5@1 1@1 5@1 1@1");
        Desk.says("not heads, SPACES, what is put on pages else");
        costs("@set head 1\n@set gap 3\n>a\n\n>b", "5@0 15@1 15@2 15@3 21@3 15@5 21@5");
    }

    private static void headings() {
        costs("= ab", "1@0 15@1 1@1 1@1 24@1 1@0 15@1 1@1 1@1 24@1");
        costs("= a\n@set wide 12\n@toc", "3@0 15@1 1@1 23@1 15@2 15@3 3@0 15@1 1@1 23@1 15@2 15@3 32@3");
        costs("@index\na\\index{b}", "2@0 15@1 15@2 1@2 20@2 5@2 1@2 23@2 2@0 15@1 24@1 15@2 1@2 20@2 5@2 1@2 23@2");
    }

    private static void notes() {
        Desk.says("each line that is made (of blocks, from the first on, then of their notes, note by note;");
        costs("a\\note{b}\\note{}\n\nc",
            "3@0 15@1 1@1 20@1 5@1 1@1 1@1 1@1 1@1 20@1 5@1 1@1 1@1 1@1 29@1 24@1 22@1 15@3 1@3 23@3");
    }

    private static void unspent() {
        Desk.says("What would bring it above 60,000 in a set() (a tell()), or 400,000 ever, is 8, and isn't spent.");
        Desk desk = new Desk();
        desk.spend(EVER - 20);
        Desk.same("a line that doesn't fit", 8 + 16, desk.set(">abcde"));
        Desk.same("what was spent ahead of it", 16, desk.room.count(13));
        Desk.same("the rest may be spent", 4, desk.tell("abcd"));
        Desk.same("all of it", EVER, desk.room.count(14));
        Desk.same("nothing is left", -9, desk.tell("a"));
        Desk.same("still", EVER, desk.room.count(14));
    }

    /** Texts of few signs that cost much: a call 20, its arguments 10, its number 2, its text 40, 2,000 come. */
    private static final String HEAVY = "\\rep{50}{" + Desk.times("x", 40) + "}";

    /** A paragraph that comes to nothing, and raw lines that cost just the rest of 60,000. */
    private static void inOneSet() {
        String text = Desk.times("\\sub{0}{0}{" + HEAVY + "}", 28) + "\n";
        int left = 60000 - (1 + 15 + 28 * (20 + 5 + 1 + 5 + 1 + 5 + 2072));
        int many = (left - 15) / 40;
        int signs = left - 15 - 21 * many;
        StringBuilder raw = new StringBuilder();
        for (int i = 0; i < many; i++) {
            raw.append('>').append(Desk.times("r", signs / many + (i < signs % many ? 1 : 0))).append('\n');
        }
        Desk desk = new Desk();
        Desk.same("just 60,000", 0, desk.set(text + raw));
        Desk.same("spent", 60000, desk.room.count(13));
        Desk.same("shown", many, desk.room.count(12));
        Desk.same("one sign more", 8 + 16 * 2, desk.set(text + raw.toString().trim() + "r"));
        Desk.same("its line isn't spent", 60000 - 20 - signs / many, desk.room.count(13));
        Desk.same("nor shown", 0, desk.room.count(12));
        Desk.same("one empty line more", 8 + 16 * 2, desk.set(text + raw + "\n"));
        Desk.same("both are ever", 60000 + desk.room.count(13) + 60000 - 20 - signs / many, desk.room.count(14));
        String each = "\\sub{0}{0}{" + HEAVY + "}";
        Desk rounds = new Desk();
        Desk.same("two rounds", 0, rounds.set("x\\label{k}" + Desk.times(each, 14)));
        Desk.same("of both", 2 * (1 + 15 + 1 + 20 + 5 + 1 + 14 * 2109 + 23), rounds.room.count(13));
        Desk.same("two that are too much together", 8 + 16, rounds.set("x\\label{k}" + Desk.times(each, 15)));
        Desk.same("one alone is not", 0, rounds.set("x" + Desk.times(each, 15)));
    }

    private static void inOneTell() {
        String text = Desk.times(HEAVY, 28);
        String rest = "\\rep{49}{" + Desk.times("y", 38) + "}";
        int left = 60000 - 28 * 2072 - (20 + 10 + 2 + 38 + 49 * 38);
        Desk desk = new Desk();
        Desk.same("just 60,000", 28 * 2000 + 49 * 38 + left, desk.tell(text + rest + Desk.times("z", left)));
        Desk.same("spent", 60000, desk.room.count(14));
        Desk.same("one more", -9, desk.tell(text + rest + Desk.times("z", left + 1)));
        Desk.same("60,000 again", 120000, desk.room.count(14));
        Desk.same("each has its own", 1, desk.tell("a"));
        Desk.same("a set's is its own", 0, desk.set(">a"));
        Desk.same("of that set alone", 1 + 15 + 21, desk.room.count(13));
        desk.tell("abc");
        Desk.same("not of a tell", 1 + 15 + 21, desk.room.count(13));
    }

    private static void ever() {
        Desk desk = new Desk();
        desk.spend(EVER);
        Desk.same("tell of nothing", 0, desk.tell(""));
        Desk.same("tell of a style", 0, desk.tell("*"));
        Desk.same("tell of a sign", -9, desk.tell("a"));
        Desk.same("a } costs nothing", -3, desk.tell("}"));
        Desk.same("a { that isn't closed", -3, desk.tell("{"));
        Desk.same("a group", -9, desk.tell("{}"));
        Desk.same("a #", -12, desk.tell("#1"));
        Desk.same("set of nothing", 0, desk.set(""));
        Desk.same("set of an empty line", 8, desk.set("\n"));
        Desk.same("add to nothing", 1, addTo(desk, "", "a"));
        Desk.same("add to a sign", -4, addTo(desk, "a", "b"));
        desk.write("");
        desk.feed("a\nb");
        Desk.same("replace in nothing", 0, desk.room.replace(0));
        desk.write("c");
        desk.feed("a\nb");
        Desk.same("replace in a sign", -4, desk.room.replace(0));
    }

    private static int addTo(Desk desk, String manuscript, String text) {
        desk.write(manuscript);
        desk.feed(text);
        return desk.room.add();
    }
}
