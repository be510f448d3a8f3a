/** The edges of part 4: words, points, rooms, both ways of filling, justifying. */
public final class LinesEdgeTest {
    private static final String PLAIN = "@set indent 0\n@set justify 0\n@set wide 12\n@set gap 0\n";
    private static final String LINE = "123456789012";

    public static void main(String[] args) {
        words();
        dashes();
        hyphenPoints();
        rowsOfLetters();
        exceptions();
        patterns();
        leftAndRight();
        rooms();
        wayZero();
        wayZeroParts();
        wayOneCosts();
        wayOneTies();
        wayOneNone();
        justifyAhead();
        justifyThree();
        styles();
        Desk.close();
    }

    private static void is(String what, String due, String text) {
        Desk.same(what, due, Desk.setNew(PLAIN + text));
    }

    private static void words() {
        Desk.says("A row's WORDS are its signs between blanks (hard ones are none).");
        is("blanks at both ends, several between", "a b c/=", "  a   b {} c   ");
        is("a hard blank is of a word", "aaaa/bbbb cccc/=", "aaaa bbbb\\ cccc");
        is("at a word's ends", " a  b /=", "\\ a \\ b\\ ");
        is("alone", "a   b/=", "a \\  b");
        is("blanks in an argument", "a b/=", "\\low{ a  }  \\low{  b }");
    }

    private static void dashes() {
        Desk.says("POINTS of a word are places behind a sign of it at which it may be parted:");
        is("each word its own", "aaa bbb-bbb-/bbb ccc-ccc/=", "aaa bbb-bbb-bbb ccc-ccc");
        Desk.says("behind a - that is neither its first nor its last sign (nothing is put)");
        is("within", "aaaaaa bbb-/ccc/=", "aaaaaa bbb-ccc");
        is("just fits", "aaaaaaa bbb-/ccc/=", "aaaaaaa bbb-ccc");
        is("doesn't fit", "aaaaaaaa/bbb-ccc/=", "aaaaaaaa bbb-ccc");
        is("its second sign", "aaaaaaaaa b-/ccc/=", "aaaaaaaaa b-ccc");
        is("its first sign", "aaaaaaaaaa/-ccc/=", "aaaaaaaaaa -ccc");
        is("its first and second", "aaaaaaaaa --/ccc/=", "aaaaaaaaa --ccc");
        is("its last sign", "aaaaaaaaaa/c-/=", "aaaaaaaaaa c-");
        is("its last but one", "aaaaaaaaa c-/-/=", "aaaaaaaaa c--");
        is("the second of the row", "b-/cccccccccccc/c/=", "b-ccccccccccccc");
        Desk.same("by way 1, too", "b-/cccccccccc d/eeeeeeeeeeee/=", best("b-cccccccccc d eeeeeeeeeeee"));
        Desk.same("the first of the row by way 1", "-bbbbbbbbbbb/b/=", best("-bbbbbbbbbbbb"));
        is("the first of the row", "-bbbbbbbbbbb/bbc/=", "-bbbbbbbbbbbbbc");
        is("the last of the row", "bbbbbbbbbbbb/-/=", "bbbbbbbbbbbb-");
        is("behind a hard blank", "aaaaaa b -/ccc/=", "aaaaaa b\\ -ccc");
        is("hyph 0 leaves it", "aaaaaa bbb-/ccc/=", "@set hyph 0\naaaaaa bbb-ccc");
        Desk desk = new Desk();
        desk.set(PLAIN + "aaaaaa bbb-ccc");
        Desk.same("none is put", 0, desk.room.count(8));
        is("of the rest of a word", "aaaaaaa bbb-/cccccc-/dddddd/=", "aaaaaaa bbb-cccccc-dddddd");
        is("the first of a rest is within the word", LINE + "/-/" + LINE + "/=", LINE + "-" + LINE);
    }

    private static void hyphenPoints() {
        Desk.says("and, with hyph 1, HYPHEN points within its rows of letters (a - is put, in the style of the sign ahead)");
        is("hyph 1", "aaaaaa bbb-/ccc/=", "@pat b1c\naaaaaa bbbccc");
        is("hyph 0", "aaaaaa/bbbccc/=", "@set hyph 0\n@pat b1c\naaaaaa bbbccc");
        is("among other signs", "aaaa (\"bbb-/ccc\")/=", "@pat b1c\naaaa (\"bbbccc\")");
        is("each row of letters its own", "aaaaaa b9bb-/cc/=", "@pat b1c\naaaaaa b9bbcc");
        is("none ahead of its first letter", "bbbbbb/9999aaa/=", "@set left 1\n@pat 1a\nbbbbbb 9999aaa");
        is("none behind its last letter", "bbbbbb/aaa9999/=", "@set right 1\n@pat a1\n@set left 3\nbbbbbb aaa9999");
        is("none over a sign", "aaaaaaaa/bb9cc/=", "@pat b1c\naaaaaaaa bb9cc");
        is("none over a hard blank", "aaaaaaaa/bb cc/=", "@pat b1c\naaaaaaaa bb\\ cc");
        is("beside a dash", "aaaaaa-bbb-/ccc/=", "@pat b1c\naaaaaa-bbbccc");
        is("dots are at the row's ends, not the word's", "aaaaaa 9bb-/ccc/=", "@pat .bb1c\naaaaaa 9bbccc");
        Desk desk = new Desk();
        desk.set(PLAIN + "@pat b1c\naaaaaa *bb_b*ccc");
        Desk.same("style of the sign ahead", "aaaaaa bbb-", desk.line(0, 0));
        Desk.same("styles", "00000001133", desk.styles(0, 0));
        Desk.same("style behind it", "222", desk.styles(0, 1));
        Desk.same("put", 1, desk.room.count(8));
    }

    private static void rowsOfLetters() {
        Desk.says("of a row of n letters (as long as it is, 40 at most, else none), taken small");
        String forty = Desk.times("a", 39) + "b";
        Desk.same("40", 1, points("@pat a1b\n@set right 1", forty));
        is("40 in a line", Desk.times("a", 11) + "-/" + Desk.times("a", 11) + "-/" + Desk.times("a", 11) + "-/" + "aaaaaaa/=",
            "@pat a1a\n" + Desk.times("a", 40));
        is("41 in a line", Desk.times(Desk.times("a", 12) + "/", 3) + "aaaaa/=", "@pat a1a\n" + Desk.times("a", 41));
        is("41 behind a word", "a/" + Desk.times(Desk.times("a", 12) + "/", 3) + "aaaaa/=", "@pat a1a\na " + Desk.times("a", 41));
        Desk.same("41 by way 1", "bb/" + Desk.times(Desk.times("a", 12) + "/", 3) + "aaaaa/=", best("@pat a1a\nbb " + Desk.times("a", 41)));
        is("two rows of 40 and 41", Desk.times("a", 11) + "-/" + Desk.times("a", 11) + "-/" + Desk.times("a", 11) + "-/aaaaa-/aa9aaaaaaaaa/"
            + Desk.times(Desk.times("a", 12) + "/", 2) + "aaaaaaaa/=", "@pat a1a\n" + Desk.times("a", 40) + "9" + Desk.times("a", 41));
        Desk.same("taken small", "AA-Bb aa-BB", answer("@pat a1b", "AABb") + " " + answer("@pat a1b", "aaBB"));
        is("in a line, too", "aaaaaa BBB-/CCC/=", "@pat b1c\naaaaaa BBBCCC");
        Desk.same("the answer is as it was fed", "aA-Bz", answer("@word aa-bz", "aABz"));
    }

    private static int points(String rules, String word) {
        Desk desk = new Desk();
        Desk.same(rules, 0, desk.set(rules));
        desk.feed(word);
        return desk.room.hyphens();
    }

    private static String answer(String rules, String word) {
        Desk desk = new Desk();
        Desk.same(rules, 0, desk.set(rules));
        desk.feed(word);
        desk.room.hyphens();
        return desk.answer();
    }

    private static void exceptions() {
        Desk.says("if it is an exception without its - (of several the latest): where these stand (left, right don't matter).");
        Desk.same("where these stand", "a-b-c-d", answer("@word a-b-c-d", "abcd"));
        Desk.same("left, right don't matter", "a-bc-d", answer("@set left 9\n@set right 9\n@word a-bc-d", "abcd"));
        Desk.same("none stand", "abcd", answer("@pat b1c\n@word abcd", "abcd"));
        Desk.same("the latest", "abc-d", answer("@word a-bcd\n@word ab-cd abc-d", "abcd"));
        Desk.same("the latest has none", "abcd", answer("@word a-bcd abcd", "abcd"));
        Desk.same("others don't matter", "a-bcd", answer("@word a-bcd b-cd a-bc a-bcde abcdd", "abcd"));
        Desk.same("of 24 letters", Desk.times("a", 24), answer("@pat a1a\n@word " + Desk.times("a", 24), Desk.times("a", 24)));
        Desk.same("of 25 letters there is none", 22, points("@pat a1a\n@word " + Desk.times("a", 24), Desk.times("a", 25)));
        Desk.same("of 23 letters, nor", 20, points("@pat a1a\n@word " + Desk.times("a", 24), Desk.times("a", 23)));
        Desk.same("great letters", "A-BCD", answer("@word a-bcd", "ABCD"));
        is("in a line", "aaaaaaaaa b-/cd/=", "@word b-cd\naaaaaaaaa bcd");
        is("a row of letters, not a word", "aaaaaaa (b-/cd)/=", "@word b-cd\naaaaaaa (bcd)");
    }

    private static void patterns() {
        Desk.says("Else, with . ahead and behind it: each pattern (its digits are of the places ahead of, between and behind its signs, "
            + "0 where none stands) is laid wherever its signs stand there; each place between two signs has the greatest digit that "
            + "comes to it (0 without); a point is where it is odd");
        Desk.same("ahead of its signs", "ab-cd", answer("@pat 1c", "abcd"));
        Desk.same("behind its signs", "ab-cd", answer("@pat b1", "abcd"));
        Desk.same("between", "ab-cd", answer("@pat b1c", "abcd"));
        Desk.same("wherever they stand", "ab-ab-ab", answer("@pat b1a", "ababab"));
        Desk.same("over one another", "aa-a-a-aa", answer("@pat a1a", "aaaaaa"));
        Desk.same("from the beginning", "ab-abab", answer("@pat .ab1", "ababab"));
        Desk.same("to the end", "abab-ab", answer("@pat 1ab.", "ababab"));
        Desk.same("all of it", "ab-ab-ab", answer("@pat .ab1ab1ab.", "ababab"));
        Desk.same("a . within stands nowhere", "abab", answer("@pat a.1b b1.a", "abab"));
        Desk.same("a . ahead stands but once", "abcd", answer("@pat .b1c b1c.", "abcd"));
        Desk.same("a longer one stands nowhere", "abcd", answer("@pat ab1cde .abc1d.e", "abcd"));
        Desk.same("the greatest, 2 of 1", "abcd", answer("@pat b1c ab2c", "abcd"));
        Desk.same("the greatest, 3 of 2", "ab-cd", answer("@pat b3c ab2c", "abcd"));
        Desk.same("the greatest, whichever is told last", "ab-cd", answer("@pat ab2c b3c b1c", "abcd"));
        Desk.same("9", "ab-cd", answer("@pat b8c b9c", "abcd"));
        Desk.same("8", "abcd", answer("@pat b8c b7c", "abcd"));
        for (int digit = 0; digit <= 9; digit++) {
            Desk.same("digit " + digit, digit % 2, points("@pat b" + digit + "c", "abcd"));
        }
        Desk.same("no digit", "abcd", answer("@pat bc", "abcd"));
        Desk.same("0 takes none away", "ab-cd", answer("@pat b1c b0c bc", "abcd"));
        Desk.same("several digits", "ab-cd-ef", answer("@pat 3b1c2d1e4", "abcdef"));
        Desk.same("no exception of it", "ab-cd", answer("@word abc-e\n@pat b1c", "abcd"));
        Desk.same("a letter alone", "a", answer("@pat 1a1", "a"));
    }

    private static void leftAndRight() {
        Desk.says("at least left letters are ahead in the row and at least right behind.");
        for (int left = 1; left <= 9; left++) {
            for (int right = 1; right <= 9; right += 4) {
                int due = Math.max(0, 12 - left - right + 1);
                Desk.same("left " + left + " right " + right, due,
                    points("@set left " + left + "\n@set right " + right + "\n@pat 1a1", Desk.times("a", 12)));
            }
        }
        Desk.same("just left and right", "ab-abc", answer("@set right 3\n@pat b1a", "ababc"));
        Desk.same("too few ahead", 0, points("@set left 3\n@pat b1a", "ababc"));
        Desk.same("too few behind", 0, points("@set right 4\n@pat b1a", "ababc"));
        Desk.same("fewer letters than both", 0, points("@pat 1a1", "aaa"));
        Desk.same("as many as both", 1, points("@pat 1a1", "aaaa"));
        is("of the row of letters, not of the word", "aaaaaaa/999bc/=", "@pat b1c\naaaaaaa 999bc");
    }

    private static void rooms() {
        Desk.says("each line has ROOM: wide less FIRST blanks (the first line), less HANG (others), 4 at least; it is these blanks, "
            + "then words and parts with one blank between.");
        is("FIRST", "     aaa bbb/ccc/=", "@set indent 5\naaa bbb ccc");
        is("FIRST too little", "      aaa/bbb ccc/=", "@set indent 6\naaa bbb ccc");
        is("just 4", "        aaaa/aaaaaaaaaaaa/=", "@set indent 8\naaaaaaaaaaaaaaaa");
        is("HANG", "- aaaaaaaaaa/  bbbbbbbbbb/=", "- aaaaaaaaaa bbbbbbbbbb");
        is("HANG too little", "- aaaaaaaaaa/  a/  bbbbbbbbbb/=", "- aaaaaaaaaaa bbbbbbbbbb");
        String roman = Desk.times("    # x\n", 7);
        String shown = "    i. x/    ii. x/    iii. x/    iv. x/    v. x/    vi. x/    vii. x/";
        is("4 at least", shown + "    viii. abcd/          efgh/          i/=", roman + "    # abcdefghi");
        is("of others, too", shown + "    viii. ab/          cdef/=", roman + "    # ab cdef");
        Desk desk = new Desk();
        desk.set(PLAIN + "@set high 60\n" + Desk.times("= a\n", 10) + Desk.times("== a\n", 10) + Desk.times("=== a\n", 9)
            + "@page\n=== abc defgh");
        Desk.same("4 at least of a heading's others", "10.10.10 abc/         defg/         h/", desk.page(desk.room.pages() - 1));
        desk.set(PLAIN + "@set high 60\n" + Desk.times("    # a\n", 37) + "    # abcde");
        Desk.same("FIRST beyond wide", "    xxxviii. abcd/             e", desk.line(0, 37) + "/" + desk.line(0, 38));
        desk.set(PLAIN + "@set high 60\n@set justify 1\n" + Desk.times("    # a\n", 8));
        Desk.same("justified within 4 at least", "    viii.    a", desk.line(0, 7));
        is("a heading's", "0.0.1 aaaaaa/      bbbbbb/=", "=== aaaaaa bbbbbb");
        is("a heading's too little", "0.0.1/      aaaaaa/      a/      bbbbbb/=", "=== aaaaaaa bbbbbb");
    }

    private static void wayZero() {
        Desk.says("Way 0: what comes next (a word, or the rest of one), if it and the blank ahead of it (if something is there already) "
            + "fit, comes to the line.");
        is("just fits", LINE + "/=", LINE);
        is("with the blank just fits", "aaaaa bbbbbb/=", "aaaaa bbbbbb");
        is("with the blank doesn't", "aaaaaa/bbbbbb/=", "aaaaaa bbbbbb");
        is("the rest of one and more", LINE + "/1 aaa/=", LINE + "1 aaa");
        is("a full line, then more", LINE + "/a/=", LINE + " a");
        Desk.says("Else, if nothing is on the line yet: so many signs as fit, without a -, and it is over. Else it is over.");
        is("so many as fit", LINE + "/" + LINE + "/1/=", LINE + LINE + "1");
        is("not behind others", "a/" + LINE + "/1/=", "a " + LINE + "1");
        Desk desk = new Desk();
        desk.set(PLAIN + LINE + LINE);
        Desk.same("without a -", 0, desk.room.count(8));
    }

    private static void wayZeroParts() {
        Desk.says("Else, if a part of it up to a POINT, with its -, fits likewise: the one up to the latest such point, and the line is over.");
        is("with its - just fits", "aaaaaaa bbb-/ccc/=", "@pat b1c\naaaaaaa bbbccc");
        is("with its - doesn't", "aaaaaaaa/bbbccc/=", "@pat b1c\naaaaaaaa bbbccc");
        is("the latest", "aa bbbbbbbb-/bbb/=", "@pat b1b\naa bbbbbbbbbbb");
        is("the latest that fits", "aaaa bb-/bbbbccc/=", "@word bb-bbbbcc-c\naaaa bbbbbbccc");
        is("the line is over, even for a short word", "aaaaaa bbb-/ccc d/=", "@pat b1c\naaaaaa bbbccc d");
        is("at a line's beginning", "bbbbbbbbbbb-/bbb/=", "@pat b1b\nbbbbbbbbbbbbbb");
        is("the rest is parted again", "bbbbbbbbbbb-/bbbbbbbbbbb-/bbb/=", "@pat b1b\n" + Desk.times("b", 25));
        is("a dash behind a hyphen point", "aaa bb-bbbb-/ccc/=", "@pat b1b\naaa bb-bbbb-ccc");
        is("a hyphen point behind a dash", "aaa bb-bbbb-/ccccc/=", "@pat b1c\naaa bb-bbbbccccc");
        is("a dash just fits where a - that is put doesn't", "aaaaaaa bbb-/ccc/=", "aaaaaaa bbb-ccc");
        is("a - that is put there doesn't fit", "aaaaaaaa bb-/bccc/=", "@pat b1b b1c\naaaaaaaa bbbccc");
    }

    private static String best(String text) {
        return Desk.setNew("@set fill 1\n" + PLAIN + text);
    }

    private static void wayOneCosts() {
        Desk.says("lines may end behind words and at points;");
        Desk.same("behind words", "aaaa bbb/cc ddddd/eeeeeeeeee/=", best("aaaa bbb cc ddddd eeeeeeeeee"));
        Desk.same("at a dash", "aaaa bbbbb-/ccc/=", best("aaaa bbbbb-ccc"));
        Desk.same("at a hyphen point", "aaa bbbbbb-/ccccccc/=", best("@pat b1c\naaa bbbbbbccccccc"));
        Desk.same("nowhere else", "aaa/bbbbbbccccc/=", best("aaa bbbbbbccccc"));
        Desk.says("one that isn't the last costs the square of what is left of its room, and 50 if a - was put; the last costs nothing.");
        Desk.same("49 without, 50 with", "aaaaa/bbbbbccc/=", best("@pat b1c\naaaaa bbbbbccc"));
        Desk.same("64 without, 59 with", "aaaa bbbb-/ccccccc/=", best("@pat b1c\naaaa bbbbccccccc"));
        Desk.same("50 both ways: the first takes most", "aaaaa bbbbb-/ccc uu vvvvv/rrrrrr/=", best("@pat b1c\naaaaa bbbbbccc uu vvvvv rrrrrr"));
        Desk.same("a - that is put must fit", "aaaa/bbbbbbbccc/=", best("@pat b1c\naaaa bbbbbbbccc"));
        Desk.same("it just fits", "aaa bbbbbbb-/cccc/=", best("@pat b1c\naaa bbbbbbbcccc"));
        Desk.same("a dash costs no 50", "aaaaa bbbbb-/ccc/=", best("aaaaa bbbbb-ccc"));
        Desk.same("the square, not the sum", "aaaa bbb/cc ddddd/eeeeeeeeee/=", best("aaaa bbb cc ddddd eeeeeeeeee"));
        Desk.same("the last costs nothing", "aaaa bbb cc/d/=", best("aaaa bbb cc d"));
        Desk.same("nothing, if it is the only one", "a/=", best("a"));
        Desk.same("of its room: FIRST", "      aa bbb/ccc/=", Desk.setNew(PLAIN + "@set fill 1\n@set indent 6\naa bbb ccc"));
        Desk.same("of its room: HANG", "- aaa bb/  cc dddd/  eeeeeeee/=", best("- aaa bb cc dddd eeeeeeee"));
    }

    private static void wayOneTies() {
        Desk.says("Of all ways in which all lines fit the one that costs least; of several the one whose first line takes most of the row, "
            + "then the second, and so on.");
        Desk.same("58 both ways", "aaaaa bbb/ccccc/ddddddd/=", best("aaaaa bbb ccccc ddddddd"));
        Desk.same("the second", LINE + "/aaaaa bbb/ccccc/ddddddd/=", best(LINE + " aaaaa bbb ccccc ddddddd"));
        Desk.same("in items", "- aaa bbb/  ccc/  ddddddddd/=", best("- aaa bbb ccc ddddddddd"));
        Desk.says("Way 1 (with fill 1, of PARAGRAPHS, ITEMS)");
        String text = "aaaa bbb cc ddddd eeeeeeeeee";
        Desk.same("a heading by way 0", "1 aaaa bbb/  cc ddddd/  eeeeeeeeee/=", best("= " + text));
        Desk.same("way 0 of it", "1 aaa bbb cc/  ddddd/  eeeeeeeeee/=", best("= aaa bbb cc ddddd eeeeeeeeee"));
        Desk.same("a cell by way 0", "aaaa bbb cc/ddddd/eeeeeeeeee/------------/=", best("|" + text));
        Desk.same("a note by way 0", "a[1]/----------/1. aaa bb cc/   dddd/   eeeeeeeee/=",
            best("@set high 5\na\\note{aaa bb cc dddd eeeeeeeee}"));
    }

    private static void wayOneNone() {
        Desk.same("each text its own points", "bbb-/ccccccccccc/bbbbb-/cccccccc/=", best("@pat b1c\nbbbccccccccccc\n\nbbbbbcccccccc"));
        Desk.same("each text its own letters", "b99/cccccccccccc/99b/cccccccccccc/=",
            best("b99 cccccccccccc\n\n99b cccccccccccc"));
        Desk.says("If there is none: way 0.");
        Desk.same("a word that is too long", "a bb/" + LINE + "/1 c/=", best("a bb " + LINE + "1 c"));
        Desk.same("too long without its point", "aa/bbbbbbbbbbb-/cc d/=", best("@pat b1c\naa bbbbbbbbbbbcc d"));
        Desk.same("no words", "-/=", best("- "));
    }

    private static void justifyAhead() {
        Desk.says("JUSTIFY 0: so. 1: what is left of the room comes ahead, as blanks (behind FIRST, HANG). 2: half of it (whole part).");
        String text = "aaaa bbb cccccc dd";
        is("0", "aaaa bbb/cccccc dd/=", text);
        is("1", "    aaaa bbb/   cccccc dd/=", "@set justify 1\n" + text);
        is("2, the whole part of half", "  aaaa bbb/ cccccc dd/=", "@set justify 2\n" + text);
        is("nothing is left", LINE + "/=", "@set justify 1\n" + LINE);
        is("half of one is none", "aaaaaaaaaaa/=", "@set justify 2\naaaaaaaaaaa");
        is("behind FIRST", "   " + "     aaaa/=", "@set justify 1\n@set indent 3\naaaa");
        is("behind HANG", "-  aaaaa bbb/      cccccc/=", "@set justify 1\n- aaaaa bbb cccccc");
        is("half behind FIRST", "   " + "  aaaa/=", "@set justify 2\n@set indent 3\naaaa");
        is("a - that was put is no room", " aaaaa bbbb-/       ccccc/=", "@set justify 1\n@pat b1c\naaaaa bbbbccccc");
    }

    private static void justifyThree() {
        Desk.says("3: but in the last line, and in lines without a blank between words: each such blank is as many more as the left ones by "
            + "the blanks (whole part), and, of what is left then, one more: in lines 0, 2, 4, .. of the block the first ones, in the "
            + "others the last ones.");
        String three = "@set justify 3\n";
        is("the last line", "a b/=", three + "a b");
        is("no blank", "aaaaaaaa/bbbbbbbb/=", three + "aaaaaaaa bbbbbbbb");
        is("a hard blank is none between words", "aaa bbb/cccccccc/=", three + "aaa\\ bbb cccccccc");
        is("one blank takes all", "aaa       bb/cccccccc/=", three + "aaa bb cccccccc");
        is("as many each", "a    bb    c/ddddddd/=", three + "a bb c ddddddd");
        is("as many each of three", "a  b  cc  dd/eeeeeee/=", three + "a b cc dd eeeeeee");
        is("line 0: one more", "a   b  c  dd/eeeeeee/=", three + "a b c dd eeeeeee");
        is("line 1: the last ones", LINE + "/a  b  c   dd/eeeeeee/=", three + LINE + " a b c dd eeeeeee");
        is("line 2: the first ones", LINE + "/" + LINE + "/a   b  c  dd/eeeeeee/=", three + LINE + " " + LINE + " a b c dd eeeeeee");
        is("line 0: two more", "a   b   c  d/eeeeeee/=", three + "a b c d eeeeeee");
        is("line 1: two more", LINE + "/a  b   c   d/eeeeeee/=", three + LINE + " a b c d eeeeeee");
        is("each block from its line 0 on", "aa/a   b   c  d/eeeeeee/=", three + ">aa\na b c d eeeeeee");
        is("behind FIRST", "  a  b  c  d/eeeeeeeee/=", three + "@set indent 2\na b c d eeeeeeeee");
        is("of an item", "- a  b  c  d/  eeeeeeee/=", three + "- a b c d eeeeeeee");
        is("nothing is left", "aaaaa bbbbbb/c/=", three + "aaaaa bbbbbb c");
        is("with a - that was put", "aaa   bbbbb-/ccccc/=", three + "@pat b1c\naaa bbbbbccccc");
    }

    private static void styles() {
        Desk.says("Blanks that are made (also between words) have style 0.");
        Desk desk = new Desk();
        desk.set(PLAIN + "@set indent 2\n@set justify 3\n*aa bb cc\\ d eeeeeeeee");
        Desk.same("signs", "  aa bb cc d", desk.line(0, 0));
        Desk.same("styles", "001101101111", desk.styles(0, 0));
        desk.set(PLAIN + "@set justify 3\n*a b ccccccccccc");
        Desk.same("blanks that fill", "1" + Desk.times("0", 10) + "1", desk.styles(0, 0));
        desk.set(PLAIN + "@set justify 1\n_a");
        Desk.same("blanks ahead", Desk.times("0", 11) + "2", desk.styles(0, 0));
        desk.set(PLAIN + "- *aaaaaaaaa bbb");
        Desk.same("a marker, HANG", "00111111111 00111", desk.styles(0, 0) + " " + desk.styles(0, 1));
    }
}
