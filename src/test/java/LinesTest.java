import java.util.ArrayList;
import java.util.List;

/** Part 4: points, filling by both ways, justifying; promises 12 to 14 and 18. */
public final class LinesTest {
    private static final String PLAIN = "@set indent 0\n@set justify 0\n@set wide 12\n";
    private static final String PATTERNS = "@pat hy3ph he2n hena4 hen5at 1na n2at 1tio 2io o2n\n";

    public static void main(String[] args) {
        hyphens();
        wrongHyphens();
        wayZero();
        dashes();
        hyphenPoints();
        wayOne();
        wayOneByTrial();
        justify();
        rooms();
        styles();
        Desk.close();
    }

    private static String hyphens(String rules, String word) {
        Desk desk = new Desk();
        Desk.same(rules, 0, desk.set(rules));
        desk.feed(word);
        int points = desk.room.hyphens();
        Desk.same(word + " takes the tape", 0, desk.room.count(0));
        return points + " " + desk.answer();
    }

    private static void hyphens() {
        Desk.same("Liang's", "2 hy-phen-ation", hyphens(PATTERNS, "hyphenation"));
        Desk.same("as it is written", "2 HY-phen-ATION", hyphens(PATTERNS, "HYphenATION"));
        Desk.same("an exception", "1 Gal-ley", hyphens("@word gal-ley\n@pat a1l", "Galley"));
        Desk.same("without points", "0 galley", hyphens("@word galley\n@pat a1l l1l", "galley"));
        Desk.same("the latest", "1 g-alley", hyphens("@word gal-ley\n@word g-alley", "galley"));
        Desk.same("left and right don't matter", "3 a-b-c-d", hyphens("@set left 9\n@set right 9\n@word a-b-c-d", "abcd"));
        Desk.same("left 2, right 2", "3 aa-a-a-aa", hyphens("@pat a1a", "aaaaaa"));
        Desk.same("left", "1 aaaa-aa", hyphens("@set left 4\n@pat a1a", "aaaaaa"));
        Desk.same("right", "1 aa-aaaa", hyphens("@set right 4\n@pat a1a", "aaaaaa"));
        Desk.same("both 1", "3 a-a-a-a", hyphens("@set left 1\n@set right 1\n@pat 1a", "aaaa"));
        Desk.same("ahead", "1 a-bab", hyphens("@set left 1\n@pat .a1b", "abab"));
        Desk.same("behind", "1 aba-b", hyphens("@set right 1\n@pat a1b.", "abab"));
        Desk.same("a dot within stands nowhere", "0 abab", hyphens("@pat a.b1a", "abab"));
        Desk.same("the greatest", "0 abcd", hyphens("@pat b1c\n@pat ab2c", "abcd"));
        Desk.same("the greatest again", "1 ab-cd", hyphens("@pat b3c\n@pat ab2c", "abcd"));
        Desk.same("0 is none", "0 abcd", hyphens("@pat b0c", "abcd"));
        Desk.same("hyph doesn't matter", "1 ab-cd", hyphens("@set hyph 0\n@pat b1c", "abcd"));
        Desk.same("40", "0 " + Desk.times("a", 40), hyphens("", Desk.times("a", 40)));
        Desk desk = new Desk();
        desk.feed("word");
        Desk.same("ahead of any set", 0, desk.room.hyphens());
        desk.set("@pat o1r\n@set left 1\n}\n@pat w1o");
        desk.feed("word");
        Desk.same("at a fault", 1, desk.room.hyphens());
        desk.set("");
        desk.feed("word");
        Desk.same("of the latest set", 0, desk.room.hyphens());
    }

    private static void wrongHyphens() {
        Desk desk = new Desk();
        desk.tell("stays");
        for (String text : new String[] {"", "a b", "a1", "a-b", "a\n", Desk.times("a", 41)}) {
            desk.feed(text);
            Desk.same("not letters: " + text, TypeRoom.NONE, desk.room.hyphens());
            Desk.same("tape is taken", 0, desk.room.count(0));
            Desk.same("the answer stays", "stays", desk.answer());
        }
    }

    private static void wayZero() {
        Desk.same("just fits", "aaaaa bbbbbb/c/=", Desk.setNew(PLAIN + "aaaaa bbbbbb c"));
        Desk.same("one too many", "aaaaaa/bbbbbb c/=", Desk.setNew(PLAIN + "aaaaaa bbbbbb c"));
        Desk.same("cut", "abcdefghijkl/mn o/=", Desk.setNew(PLAIN + "abcdefghijklmn o"));
        Desk.same("not cut behind others", "a/abcdefghijkl/m/=", Desk.setNew(PLAIN + "a abcdefghijklm"));
        Desk.same("blanks are one", "a b/=", Desk.setNew(PLAIN + " a    b  "));
        Desk.same("hard ones part no words", "aaaa/bbbb cccc/=", Desk.setNew(PLAIN + "aaaa bbbb\\ cccc"));
        Desk.same("nothing but blanks", "", Desk.setNew(PLAIN + "\\rep{3}{ }"));
        Desk.same("a hard blank is a word", " /=", Desk.setNew(PLAIN + "\\ "));
    }

    private static void dashes() {
        Desk.same("behind a dash", "aaaa bbbb-/cccc/=", Desk.setNew(PLAIN + "aaaa bbbb-cccc"));
        Desk.same("the latest", "a b-c-d-e-f-/g/=", Desk.setNew(PLAIN + "a b-c-d-e-f-g"));
        Desk.same("not the first", "aaaaaaaaaa/-bcd/=", Desk.setNew(PLAIN + "aaaaaaaaaa -bcd"));
        Desk.same("not the last", "aaaaaaaa/bcd-/=", Desk.setNew(PLAIN + "aaaaaaaa bcd-"));
        Desk.same("two dashes", "aaaaaaaa b--/c/=", Desk.setNew(PLAIN + "aaaaaaaa b--c"));
        Desk.same("without hyph", "aaaa bbbb-/cccc/=", Desk.setNew("@set hyph 0\n" + PLAIN + "aaaa bbbb-cccc"));
        Desk desk = new Desk();
        desk.set(PLAIN + "aaaa bbbb-cccc");
        Desk.same("nothing is put", 0, desk.room.count(8));
        Desk.same("a dash of the rest", "abcdefghijkl/-/mnopqrstuvwx/=", Desk.setNew(PLAIN + "abcdefghijkl-mnopqrstuvwx"));
    }

    private static void hyphenPoints() {
        String rules = PATTERNS + PLAIN;
        Desk.same("latest that fits", "aaa hyphen-/ation/=", Desk.setNew(rules + "aaa hyphenation"));
        Desk.same("with its -", "aaaaaa hy-/phenation/=", Desk.setNew(rules + "aaaaaa hyphenation"));
        Desk.same("none fits", "aaaaaaaaaa/hyphenation/=", Desk.setNew(rules + "aaaaaaaaaa hyphenation"));
        Desk.same("hyph 0", "aaa/hyphenation/=", Desk.setNew(rules + "@set hyph 0\naaa hyphenation"));
        Desk.same("within others", "(hyphen-/ation),/=", Desk.setNew(rules + "(hyphenation),"));
        Desk.same("each row of letters", "aaaa x9hy-/phen/=", Desk.setNew(rules + "aaaa x9hyphen"));
        Desk.same("41 letters", Desk.times("a", 12) + "/" + Desk.times("a", 12) + "/" + Desk.times("a", 12) + "/aaaaa/=",
            Desk.setNew("@pat a1a\n" + PLAIN + Desk.times("a", 41)));
        Desk.same("40 letters", Desk.times("a", 11) + "-/" + Desk.times("a", 11) + "-/" + Desk.times("a", 11) + "-/aaaaaaa/=",
            Desk.setNew("@pat a1a\n" + PLAIN + Desk.times("a", 40)));
        Desk.same("behind its directive", "aaa/hyphenation//aaa hyphen-/ation/=",
            Desk.setNew(PLAIN + "aaa hyphenation\n\n" + PATTERNS + "aaa hyphenation"));
        Desk desk = new Desk();
        desk.set(rules + "aaa hyphenation");
        Desk.same("put", 1, desk.room.count(8));
    }

    private static void wayOne() {
        String rules = "@set fill 1\n" + PLAIN;
        Desk.same("way 0", "aaa bb cc/ddddd/=", Desk.setNew(PLAIN + "aaa bb cc ddddd"));
        Desk.same("last costs nothing", "aaa bb cc/ddddd/=", Desk.setNew(rules + "aaa bb cc ddddd"));
        Desk.same("evener", "aaaa bbb/cc ddddd/eeeeeeeeee/=", Desk.setNew(rules + "aaaa bbb cc ddddd eeeeeeeeee"));
        Desk.same("way 0 of it", "aaaa bbb cc/ddddd/eeeeeeeeee/=", Desk.setNew(PLAIN + "aaaa bbb cc ddddd eeeeeeeeee"));
        Desk.same("most in the first", "aa bb cc dd/ee/ffffffffffff/=", Desk.setNew(PLAIN + "aa bb cc dd ee ffffffffffff"));
        Desk.same("none fits: way 0", "a/abcdefghijkl/m b/=", Desk.setNew(rules + "a abcdefghijklm b"));
        Desk.same("items too; most in the first", "- aaaa bb/  cccc/  dddddddddd/=",
            Desk.setNew(rules + "- aaaa bb cccc dddddddddd"));
    }

    /** Way 1 against all ways of parting a row, tried one by one. */
    private static void wayOneByTrial() {
        String[] words = {"a", "bb", "c-d", "eee", "ffff", "g-hh-i", "jjjjj", "kkkkkkk", "nanana"};
        int seed = 1;
        for (int round = 0; round < 60; round++) {
            List<String> row = new ArrayList<>();
            for (int i = 0; i < 7; i++) {
                seed = seed * 1103515245 + 12345;
                row.add(words[(seed >>> 16) % words.length]);
            }
            String text = String.join(" ", row);
            String rules = "@set fill 1\n@pat n1a\n@set wide 12\n@set justify 0\n@set indent " + round % 5 + "\n";
            Desk.same(text + round, Trial.best(text, 12 - round % 5, 12, round % 5), Desk.setNew(rules + text));
        }
    }

    /** Tries all ways, from the first line on, the longest first. */
    private static final class Trial {
        private static int cost;
        private static String lines;

        static String best(String text, int first, int other, int indent) {
            cost = Integer.MAX_VALUE;
            lines = "none";
            go(text, 0, 0, first, other, Desk.times(" ", indent));
            return lines + "=";
        }

        private static void go(String text, int at, int spent, int room, int other, String ahead) {
            for (int stop = Math.min(text.length(), at + room); stop > at; stop--) {
                boolean last = stop == text.length();
                boolean word = !last && text.charAt(stop) == ' ';
                boolean dash = !last && !word && text.charAt(stop - 1) == '-' && stop - 1 > 0
                    && text.charAt(stop - 2) != ' ';
                boolean put = !last && text.charAt(stop - 1) == 'n' && text.charAt(stop) == 'a' && inner(text, stop);
                int used = stop - at + (put ? 1 : 0);
                if (!last && !word && !dash && !put || used > room) {
                    continue;
                }
                String line = ahead + text.substring(at, stop) + (put ? "-" : "") + "/";
                int left = room - used;
                int all = last ? spent : spent + left * left + (put ? 50 : 0);
                if (last) {
                    if (all < cost) {
                        cost = all;
                        lines = line;
                    }
                } else {
                    goOn(text, word ? stop + 1 : stop, all, other, line);
                }
            }
        }

        /** Two letters at least are ahead and behind in the word. */
        private static boolean inner(String text, int stop) {
            int from = text.lastIndexOf(' ', stop - 1) + 1;
            int to = text.indexOf(' ', stop) < 0 ? text.length() : text.indexOf(' ', stop);
            return stop - from >= 2 && to - stop >= 2;
        }

        private static void goOn(String text, int at, int spent, int room, String line) {
            int before = cost;
            String kept = lines;
            go(text, at, spent, room, room, "");
            if (cost < before) {
                lines = line + lines;
            } else {
                lines = kept;
            }
        }
    }

    private static void justify() {
        String text = "aaa bb c dddd eeee\n";
        Desk.same("0", "aaa bb c/dddd eeee/=", Desk.setNew(PLAIN + text));
        Desk.same("1", "    aaa bb c/   dddd eeee/=", Desk.setNew(PLAIN + "@set justify 1\n" + text));
        Desk.same("2", "  aaa bb c/ dddd eeee/=", Desk.setNew(PLAIN + "@set justify 2\n" + text));
        Desk.same("3", "aaa   bb   c/dddd eeee/=", Desk.setNew(PLAIN + "@set justify 3\n" + text));
        Desk.same("the first ones, then the last ones", "aa   bb  ccc/ddd  ee   ff/ggg   hh  ii/jjj/=",
            Desk.setNew(PLAIN + "@set justify 3\naa bb ccc ddd ee ff ggg hh ii jjj"));
        Desk.same("no blank between words", "aaaaaaaa/bbbbbbbb/=", Desk.setNew(PLAIN + "@set justify 3\naaaaaaaa bbbbbbbb"));
        Desk.same("behind FIRST", "-    aaaa bb/=", Desk.setNew(PLAIN + "@set justify 1\n- aaaa bb"));
        Desk.same("behind HANG", "-  aaaaa bbb/      cccccc/=", Desk.setNew(PLAIN + "@set justify 1\n- aaaaa bbb cccccc"));
    }

    private static void rooms() {
        Desk.same("indent", "   aaa bbb/ccc/=", Desk.setNew(PLAIN + "@set indent 3\naaa bbb ccc"));
        Desk.same("four at least", "    i. x/    ii. x/    iii. x/    iv. x/    v. x/    vi. x/"
            + "    vii. x/    viii. abcd/          efgh/=", Desk.setNew(PLAIN + Desk.times("    # x\n", 7) + "    # abcdefgh"));
        Desk.same("hang of a long number", "1 aa bb cc/  dd/=", Desk.setNew(PLAIN + "= aa bb cc dd"));
    }

    private static void styles() {
        Desk desk = new Desk();
        desk.set("@set indent 0\n@set justify 0\n@set wide 12\n@pat a1b\n"
            + "*b _s* t_ p {*g} q\n\n*aa\\ bb* c\n\n*xxxxxxx aaabb*");
        Desk.same("line", "b s t p g q", desk.line(0, 0));
        Desk.same("styles, blanks between words have none", "1" + "0" + "3" + "0" + "2" + "0" + "0" + "0" + "1" + "0" + "0",
            desk.styles(0, 0));
        Desk.same("a hard blank has its own", "1111100", desk.styles(0, 2).substring(0, 7));
        Desk.same("a - that is put", "xxxxxxx aaa-", desk.line(0, 4));
        Desk.same("in the style of the sign ahead", "111111101111", desk.styles(0, 4));
        Desk styled = new Desk();
        styled.set("@set indent 0\n@def b 1 *#1* #1\n*a \\b{x} \\up{y_z_}\\len{ab}* \\rep{2}{_r}");
        Desk.same("calls", "a x x YZ2 rr", styled.line(0, 0));
        Desk.same("arguments have the style at the call", "1" + "0" + "1" + "0" + "1" + "0" + "13" + "1" + "0" + "22",
            styled.styles(0, 0));
    }
}
