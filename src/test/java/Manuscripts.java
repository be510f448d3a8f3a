import java.util.ArrayList;
import java.util.HashMap;
import java.util.List;
import java.util.Map;
import java.util.Random;

/** Makes manuscripts of all kinds by chance, the same ones for the same seed. */
final class Manuscripts {
    private static final int NO_MARKS = 0;
    private static final int BUT_NOTES = 1;
    private static final int ALL_MARKS = 2;

    private final Random random;
    /** How often something comes that may be a fault. */
    private double odd;
    private final List<String> macros = new ArrayList<>();
    private final Map<String, Integer> wants = new HashMap<>();

    Manuscripts(long seed) {
        random = new Random(seed);
    }

    int upTo(int most) {
        return random.nextInt(most + 1);
    }

    boolean chance(double often) {
        return random.nextDouble() < often;
    }

    String pick(String... all) {
        return all[random.nextInt(all.length)];
    }

    private String letters(int most, int alphabet) {
        StringBuilder out = new StringBuilder();
        for (int k = 1 + upTo(most - 1); k > 0; k--) {
            out.append((char) ((chance(0.1) ? 'A' : 'a') + upTo(alphabet - 1)));
        }
        return out.toString();
    }

    String key() {
        String good = pick("a", "b", "c", "k1", "K1", "aB") + (chance(0.5) ? "" + upTo(9) : "");
        return chance(odd) ? pick("a b", "thirteenlette", "", "a-") : chance(0.1) ? "twelveletter" : good;
    }

    private String number() {
        String far = pick("-0", "007", "9999", "-9999", "50", "26", "27", "702", "703", "3999", "4000", "1994", "444");
        return chance(odd) ? pick("12345", "x", "", "-") : chance(0.8) ? "" + (upTo(11) - 2) : far;
    }

    private String system() {
        return chance(odd) ? pick("0", "6", "", "x") : chance(0.05) ? "03" : "" + (1 + upTo(4));
    }

    String word() {
        switch (upTo(15)) {
            case 0:
                return pick("well-known", "co-op-er-ate", "-x", "x-", "--", "-", "a--b", "a-b-c-d-e-f-g");
            case 1:
                return letters(chance(0.1) ? 60 : 14, 5);
            case 2:
                return pick("a\\ b", "\\ ", "x\\ ", "\\ y", "\\ \\ ");
            case 3:
                return pick("1", "3.4", "x1y2", "abc9def", "(a)", "don't", "=", "==", ">", "\\|", "@", "<", "^", "~");
            case 4:
                return pick("*", "_") + pick("bold", "b", "typesetting") + pick("*", "_", "*_", "");
            case 5:
                return pick("\\{", "\\}", "\\\\", "\\#", "\\*", "\\_", "\\@", "\\-", "\\1");
            case 6:
                return pick("Ink", "INK", "iNk", "ink", "Zz", "aZ");
            case 7:
                return "d" + letters(4, 4).toLowerCase() + "abcdabcdabcdabcdabcdabcdabcdabcdabcd";
            default:
                return pick("the", "press", "prints", "lead", "and", "hyphenation", "galley", "by", "a", "manuscript",
                    "typesetting", "to");
        }
    }

    /** Words and calls; a body's arguments may be told in it. */
    String text(int depth, int marks, int arguments, int most) {
        StringBuilder out = new StringBuilder();
        for (int k = most == 0 ? 0 : 1 + upTo(most - 1); k > 0; k--) {
            out.append(chance(0.25) && depth < 4 ? thing(depth, marks, arguments) : word());
            out.append(k > 1 && chance(0.9) ? pick(" ", " ", " ", "  ") : "");
            if (chance(odd * 0.2)) {
                out.append(pick("{", "}", "#", "\\nope", "\\up x", "\\rep{51}{x}", "\\", "\\sub{-1}{1}{x}", "\\index{}",
                    "\\label{}", "\\note", "\\num{1}{6}", "#1", "#0", "#9", "\\note{x}", "\\label{a}", "\\index{y}"));
            }
        }
        return out.toString();
    }

    private String argument(int depth, int arguments) {
        return "{" + text(depth + 1, NO_MARKS, arguments, chance(0.15) ? 0 : 3) + "}";
    }

    private String thing(int depth, int marks, int arguments) {
        if (arguments > 0 && chance(0.5)) {
            return "#" + (1 + upTo(arguments - 1));
        }
        if (marks != NO_MARKS && chance(0.45)) {
            return mark(depth, marks, arguments);
        }
        if (!macros.isEmpty() && chance(0.35)) {
            String name = macros.get(upTo(macros.size() - 1));
            StringBuilder out = new StringBuilder("\\" + name);
            for (int k = 0; k < wants.get(name); k++) {
                out.append(argument(depth, arguments));
            }
            return out.append("{}").toString();
        }
        String chosen = "{" + text(depth + 1, marks, arguments, 4) + "}";
        switch (upTo(4)) {
            case 0:
                return "\\if" + argument(depth, arguments) + argument(depth, arguments) + chosen + chosen;
            case 1:
                return "\\if{\\ref{" + key() + "}}{??}" + chosen + "{" + text(depth + 1, marks, arguments, 4) + "}";
            case 2:
                return chosen;
            default:
                return builtIn(argument(depth, arguments), argument(depth, arguments));
        }
    }

    private String mark(int depth, int marks, int arguments) {
        if (marks == ALL_MARKS && chance(0.2)) {
            return "\\note{" + text(depth + 1, NO_MARKS, arguments, chance(0.1) ? 40 : 8) + "}";
        }
        if (chance(0.5)) {
            return "\\label{" + (chance(5 * odd) ? key() : "L" + upTo(9999)) + "}";
        }
        return "\\index{" + pick("ink", "Ink", "press", "pear\\ ", "\\ pear", "hand set", "hand\\ set", "*ink*", "a-b-c",
            "many words of a long entry", "\\ ", "x " + text(depth + 1, NO_MARKS, arguments, 2)) + "}";
    }

    private String builtIn(String one, String two) {
        switch (upTo(11)) {
            case 0:
                return "\\" + pick("up", "low", "cap", "rev", "len") + one;
            case 1:
                return "\\rot{" + number() + "}" + one;
            case 2:
                return "\\rep{" + upTo(4) + "}" + one;
            case 3:
                return "\\sub{" + upTo(6) + "}{" + upTo(9) + "}" + one;
            case 4:
                return "\\word{" + (upTo(5) - 1) + "}" + one;
            case 5:
                return "\\at" + (chance(0.5) ? one : "{" + pick("", "a", " ", "\\ ", "e") + "}") + two;
            case 6:
                return "\\" + pick("add", "mul") + "{" + number() + "}{" + number() + "}";
            case 7:
                return "\\num{" + number() + "}{" + system() + "}";
            case 8:
                return "\\" + pick("step", "step", "show") + "{" + key() + "}{" + system() + "}";
            case 9:
                return "\\num{\\add{" + upTo(99) + "}{\\len" + one + "}}{" + system() + "}";
            default:
                return "\\" + pick("ref", "page") + "{" + (chance(0.5) ? key() : "L" + upTo(9999)) + "}";
        }
    }

    private String define() {
        String name = pick("m", "nn", "Abc", "x", "yy", "z");
        int arguments = upTo(2);
        String body = text(1, chance(0.2) ? ALL_MARKS : NO_MARKS, arguments, chance(0.1) ? 0 : 5);
        if (!chance(odd)) {
            // A body that calls itself goes too deep.
            for (String other : macros) {
                body = body.replace("\\" + other, "");
            }
        }
        if (!macros.contains(name)) {
            macros.add(name);
        }
        wants.put(name, arguments);
        return "@def " + name + " " + arguments + " " + body;
    }

    private String setting() {
        String[] all = {"wide 12 80", "wide 12 24", "indent 0 8", "justify 0 3", "hyph 0 1", "left 1 4", "right 1 4", "fill 0 1",
            "keep 0 3", "gap 0 3", "high 5 12", "high 5 60", "head 0 1", "first 1 999", "first 1 9", "system 1 5"};
        String[] one = pick(all).split(" ");
        int least = Integer.parseInt(one[1]);
        int most = Integer.parseInt(one[2]);
        int value = chance(odd) ? most + 1 : least + upTo(most - least);
        return "@set " + one[0] + " " + (chance(0.05) && value < 100 ? "0" : "") + value;
    }

    private String listed(String directive, int most, String... words) {
        StringBuilder out = new StringBuilder(directive);
        for (int k = 1 + upTo(most - 1); k > 0; k--) {
            out.append(' ').append(pick(words));
        }
        return out.append(chance(odd * 0.3) ? pick(" ", " 1", " A", " a11", " ab_c", " a--b", " -a") : "").toString();
    }

    String directive() {
        switch (upTo(9)) {
            case 0:
                return define();
            case 1:
            case 2:
            case 3:
                return setting();
            case 4:
                return listed("@pat", 12, "hy3ph", "he2n", "hena4", "1na", "n2at", "1tio", "o2n", "1t", "a1b", "b1c", "c1a",
                    "1d", "e1", ".a1", "1e.", "4b.", "p1r", "m1a", "1y", ".1a", "a1.", "a2b", "d1a1b");
            case 5:
                return listed("@word", 4, "gal-ley", "gal-l-ey", "galley", "ink", "i-nk", "hyphen-a-tion", "pr-ess", "t-o");
            case 6:
                return "@toc";
            case 7:
                return "@index";
            default:
                return chance(odd) ? pick("@", "@pages", "@toc ", "@def", "@def m", "@def m x", "@def up 0 x", "@set",
                    "@set wide", "@set foo 1", "@set wide 40 ", "@word", "@pat", "@index x") : "@page";
        }
    }

    private String table() {
        StringBuilder out = new StringBuilder();
        int columns = 1 + upTo(chance(0.05) ? 8 : 3);
        if (chance(0.5)) {
            for (int c = upTo(columns); c >= 0; c--) {
                out.append('|').append(pick("<", "^", ">", " ^ ", " >", chance(0.1) ? "" : "<"));
            }
            out.append(pick("\n", "|\n"));
        }
        for (int r = upTo(3); r >= 0; r--) {
            for (int c = columns - upTo(1); c > 0; c--) {
                out.append('|').append(chance(0.1) ? pick("", "  ", "{a|b}", "a\\|b", "}") : " " + text(2, NO_MARKS, 0, 4) + " ");
            }
            out.append(chance(0.05) ? "\n|\n" : pick("\n", "|\n", "| \n"));
        }
        return out.toString();
    }

    private String list() {
        StringBuilder out = new StringBuilder();
        for (int k = upTo(5); k >= 0; k--) {
            out.append(pick("", "", "  ", "    ")).append(pick("- ", "# ")).append(text(0, ALL_MARKS, 0, chance(0.1) ? 0 : 8));
            out.append(chance(0.2) ? "\n  " + text(0, ALL_MARKS, 0, 5) : "").append(chance(0.05) ? "\n\n" : "\n");
        }
        return out.toString();
    }

    String block() {
        switch (upTo(9)) {
            case 0:
                return pick("=", "=", "==", "===") + " " + text(0, BUT_NOTES, 0, chance(0.1) ? 0 : chance(0.1) ? 20 : 5) + "\n";
            case 1:
                return table();
            case 2:
                return pick("> raw {text} * here\n", ">\n>x\n", ">  a raw line with many many signs, more than wide is mostly\n");
            case 3:
            case 4:
                return list();
            case 5:
            case 6:
                return directive() + "\n";
            case 7:
                return pick(" one\n", "   - three\n", "-x\n", "====\n", "=x\n", "{}\n", "\\ \n", "- {}\n", "# \\ \n", "-\n", "- \n",
                    "\\ \\label{e" + upTo(999) + "}\\ x\n", chance(odd) ? "{}\\label{emp}\n" : "x\n");
            default:
                return text(0, ALL_MARKS, 0, chance(0.2) ? 60 : 20) + (chance(0.2) ? "\n" + text(0, ALL_MARKS, 0, 10) : "") + "\n";
        }
    }

    /** A text whose length hangs on the pages that its labels came to. */
    private String unsteady() {
        return "@set high 5\n\\if{\\page{o" + upTo(2) + "}}{" + (1 + upTo(2)) + "}{" + text(0, NO_MARKS, 0, 30) + "}{"
            + text(0, NO_MARKS, 0, 30) + "}\n\n" + text(0, NO_MARKS, 0, 30) + "\\label{o0}" + text(0, NO_MARKS, 0, 30)
            + "\\label{o1} " + text(0, NO_MARKS, 0, 30) + "x\\label{o2}\n";
    }

    String manuscript() {
        macros.clear();
        wants.clear();
        odd = chance(0.3) ? 0.05 : chance(0.5) ? 0.01 : 0;
        if (chance(0.15)) {
            return many();
        }
        StringBuilder out = new StringBuilder(chance(0.4) ? "@set high " + (5 + upTo(2)) + "\n" : "");
        out.append(chance(0.4) ? "@set wide " + (12 + upTo(11)) + "\n" : "");
        out.append(chance(0.4) ? pick("@pat 1a 1b 1c 1d 1e\n", "@pat .a1b .b1a 1c. e1d.\n", "@pat n1 t1 1i o3 y1p 2e 1s\n") : "");
        out.append(chance(0.3) ? "@set left " + (1 + upTo(2)) + "\n@set right " + (1 + upTo(2)) + "\n" : "");
        out.append(chance(0.3) ? "@set fill 1\n" : "");
        for (int k = upTo(chance(0.3) ? 30 : 10); k > 0; k--) {
            out.append(block()).append(chance(0.6) ? "\n" : "");
        }
        out.append(chance(0.15) ? unsteady() : "").append(chance(0.3) ? "@toc\n" : "").append(chance(0.4) ? "@index\n" : "");
        out.append(chance(0.15) ? "\\rep{50}{\\rep{" + upTo(50) + "}{abc def-ghi }}\n" + block() : "");
        int most = Math.min(out.length(), 4000 - upTo(100));
        // Cut within a text it would mostly be a fault.
        return out.substring(0, chance(0.9) ? out.lastIndexOf("\n", most) + 1 : most);
    }

    private String times(String text, int times) {
        StringBuilder out = new StringBuilder();
        for (int k = 0; k < times; k++) {
            out.append(text.replace("%", "" + k).replace("&", "" + (char) ('a' + k % 26) + (char) ('a' + k / 26)));
        }
        return out.toString();
    }

    /** As many as there may be of one kind, or nearly so, or too many. */
    private String many() {
        int over = upTo(3) - 2;
        switch (upTo(12)) {
            case 0:
                return times("@def &q 0 x\n", 40 + over) + "@def aaq 1 #1\n\\aaq{x}\n";
            case 1:
                return times("@pat &1b\n", 120 + over) + "abcdefghijkb cbbb dbab\n";
            case 2:
                return times("@word &-b\n", 60 + over) + "aab bab cab\n";
            case 3:
                return times(pick("x\\note{} ", "x\\note{a note} ", "x\\note{y}\n\n"), 60 + over) + "\n";
            case 4:
                return times(pick("x\\label{k%} ", "x\\label{k%}\n\n"), 60 + over) + (chance(0.5) ? "y\\label{k0}" : "");
            case 5:
                return times(pick("x\\index{%} ", "x\\index{&}\n\n"), 100 + over) + "\n\n@index\n";
            case 6:
                return pick("", "@toc\n@set high 9\n@set head 1\n") + times(pick("= %\n", "== &\n", "===  \n"), 60 + over);
            case 7:
                return times("\\step{c%}{1} ", 20 + over) + "\\step{c0}{1}\\show{c99}{1}\n";
            case 8:
                return times(pick("|<", "|a", "|"), 8 + over) + "|\n|x|y\n";
            case 9:
                return pick("", "@set high 60\n") + times(">\n", 1500 + over);
            case 10:
                return pick("@set high 5\n", "@set high 7\n@set head 1\n@set first 900\n") + times(">\n", 5 * (99 + over) - upTo(3));
            case 11:
                // So much work that a second round may not even begin.
                return "@def m 0 z\n@pat a1b\n@word a-b\nx\\label{k}\\rep{50}{" + times("x", 400 + upTo(60)) + "}\n" + times("\n", 3400);
            default:
                return "@def g 1 \\up{#1}\n" + "{".repeat(15) + "\\g{".repeat(14 + over) + "x" + "}".repeat(29 + over) + "\n";
        }
    }
}
