/** The edges of part 2 that TEXTS, calls and systems name, sentence by sentence. */
public final class TextsEdgeTest {
    private static final String PLAIN = "@set indent 0\n@set justify 0\n@set gap 0\n";

    public static void main(String[] args) {
        names();
        arguments();
        escapes();
        hardBlanks();
        groups();
        styles();
        bodies();
        workedAhead();
        numbers();
        keys();
        cases();
        turns();
        times();
        parts();
        words();
        places();
        sums();
        counters();
        choices();
        digits();
        roman();
        lettered();
        thirtySix();
        Desk.close();
    }

    private static void is(String due, String text) {
        Desk.same(text, due, Desk.toldNew(text));
    }

    private static void names() {
        Desk.says("\\ and letters, as many as there are: a CALL of that NAME");
        is("!-4", "\\upa{x}");
        is("!-4", "\\u{x}");
        is("!-4", "\\UP{x}");
        is("X1", "\\up{x}1");
        is("!-5", "\\up1{x}");
        is("!-5", "\\up_{x}");
        is("!-4", "\\" + Desk.times("a", 300));
    }

    private static void arguments() {
        Desk.says("with as many ARGUMENTS as it has, at once behind one another, each { .. }: up to the } that closes it "
            + "(what is behind a \\ doesn't count). All are found first, from the left.");
        is("Xy", "\\up{x}{y}");
        is("!-5", "\\add {1}{2}");
        is("!-5", "\\add{1} {2}");
        is("!-5", "\\add{1}");
        is("A{B}", "\\up{a\\{b\\}}");
        is("AB", "\\up{a{b}}");
        is("!-3", "\\up{a\\}");
        is("A\\", "\\up{a\\\\}");
        is("!-5", "\\add{\\zz}x");
        is("!-3", "\\add{\\zz}{");
        is("!-5", "\\if{}{}{}x");
        is("!-3", "\\if{}{}{}{");
        is("!-5", "\\rep{a}");
        Desk desk = new Desk();
        desk.set("@def none 0 x\n@def nine 9 #9#1");
        Desk.same("none at all", "xy", desk.told("\\none{y}"));
        Desk.same("nine", "ia", desk.told("\\nine{a}{b}{c}{d}{e}{f}{g}{h}{i}"));
        Desk.same("eight of nine", "!-5", desk.told("\\nine{a}{b}{c}{d}{e}{f}{g}{h}"));
    }

    private static void escapes() {
        Desk.says("\\ and another sign: that sign");
        StringBuilder text = new StringBuilder();
        StringBuilder due = new StringBuilder();
        for (char sign = 33; sign <= 126; sign++) {
            if (!Character.isLetter(sign)) {
                text.append('\\').append(sign);
                due.append(sign);
            }
        }
        is(due.toString(), text.toString());
        is(" ", "\\\n");
        Desk.says("All else is that sign.");
        is("|@=>-<^.,[]()~!", "|@=>-<^.,[]()~!");
    }

    private static void hardBlanks() {
        Desk.says("(\\ and a blank: a HARD blank, which parts no words, and is a blank in all else, also where signs are compared)");
        is("a b", "\\word{0}{a\\ b c}");
        is("c", "\\word{1}{a\\ b c}");
        is("yes", "\\if{a\\ b}{a b}{yes}{no}");
        is("1", "\\at{ }{a\\ b}");
        is("0", "\\at{\\ b}{ b}");
        is("A B", "\\cap{a\\ b}");
        is("1", "\\len{\\ }");
        is("!-6", "\\add{\\ 1}{1}");
        is("!-6", "\\show{a\\ }{1}");
        is("   ", "\\rep{3}{\\ }");
        Desk.same("words stay together in lines", "aaaa/bbbb cccc/=",
            Desk.setNew(PLAIN + "@set wide 12\naaaa bbbb\\ cccc"));
        Desk.same("it goes through calls", "aaaa/BBBB CCCC/=",
            Desk.setNew(PLAIN + "@set wide 12\naaaa \\up{\\rev{\\rev{bbbb\\ cccc}}}"));
        Desk desk = new Desk();
        desk.set(">a b");
        desk.room.keep();
        desk.set(PLAIN + "a\\ b");
        Desk.same("lines are compared by signs", -1, desk.room.changed(2));
        Desk.same("its sign is 32", 32, desk.room.sign(0, 0, 1));
    }

    private static void groups() {
        Desk.says("{ .. }: a GROUP (its } is looked for first): what is in it is worked, the style behind it is as ahead of it.");
        is("", "{}");
        is("", "{{}{}}");
        is("a", "{a}");
        is("!-3", "{\\zz");
        is("!-4", "{\\zz}");
        is("!-3", "{a\\}");
        is("}", "{\\}}");
        Desk desk = new Desk();
        desk.set(PLAIN + "a{*b_c}d*{*e}f");
        Desk.same("styles", "abcdef", desk.line(0, 0));
        Desk.same("of them", "013001", desk.styles(0, 0));
    }

    private static void styles() {
        Desk.says("signs, each with a STYLE (0 to 3: 1 BOLD and 2 SLANTED together; 0 as it begins)");
        Desk desk = new Desk();
        desk.set(PLAIN + "a*b_c*d_e*_f\n\ng");
        Desk.same("on and off", "abcdef", desk.line(0, 0));
        Desk.same("of them", "013203", desk.styles(0, 0));
        Desk.same("0 as the next begins", "0", desk.styles(0, 1));
        Desk.same("in cells, too", 0, desk.set(PLAIN + "|*a|b"));
        Desk.same("0 as the next cell begins", "10000", desk.styles(0, 0));
        Desk.says("* turns BOLD on or off, _ SLANTED.");
        desk.set(PLAIN + "**a__b_*c");
        Desk.same("twice is none", "0" + "0" + "3", desk.styles(0, 0));
    }

    private static void bodies() {
        Desk.says("# and a digit k: within a macro's BODY the row of its argument k.");
        Desk desk = new Desk();
        desk.set("@def m 2 #2\\up{#1}{#1}\\if{#1}{#2}{=#1}{#2#1}\n@def o 1 \\m{#1}{x}");
        Desk.same("in arguments, groups, if's parts", "bAaba", desk.told("\\m{a}{b}"));
        Desk.same("the same", "xXx=x", desk.told("\\m{x}{x}"));
        Desk.same("each body its own", "xQqxq", desk.told("\\o{q}"));
        desk.set("@def p 1 #1");
        Desk.same("none of it is worked again", "\\up#1", desk.told("\\p{\\\\up\\#1}"));
        Desk.says("A MACRO's BODY is worked in the place of the call, its style as a group's.");
        desk.set(PLAIN + "@def s 0 *a_b\nx\\s{}y*\\s{}z");
        Desk.same("signs", "xabyabz", desk.line(0, 0));
        Desk.same("styles", "0130021", desk.styles(0, 0));
        desk.set(PLAIN + "@def s 1 #1*#1*_#1\n*\\s{a_b}");
        Desk.same("an argument keeps its own", "131313", desk.styles(0, 0));
    }

    private static void workedAhead() {
        Desk.says("ARGUMENTS are worked ahead of the call, from the left, each to a row of its own, with the style at hand at the call; "
            + "but if's third and fourth.");
        is("201", "\\add{\\step{a}{1}}{\\mul{\\step{a}{1}}{100}}");
        is("no 1", "\\if{a}{b}{\\step{a}{1}}{no} \\step{a}{1}");
        is("yes1 2", "\\if{a}{a}{yes\\step{a}{1}}{\\step{a}{1}} \\step{a}{1}");
        is("3", "\\if{\\step{a}{1}}{\\step{a}{1}}{}{}\\step{a}{1}");
        Desk desk = new Desk();
        desk.set("@def two 1 #1#1");
        Desk.same("once, not as often as it is used", "11 2", desk.told("\\two{\\step{a}{1}} \\step{a}{1}"));
        desk.set("@def no 1 x");
        Desk.same("used or not", "x2", desk.told("\\no{\\step{a}{1}}\\step{a}{1}"));
        desk.set(PLAIN + "*\\up{a*b}c*\\up{d}");
        Desk.same("signs", "ABcD", desk.line(0, 0));
        Desk.same("style at the call", "1010", desk.styles(0, 0));
        Desk.says("signs of T with their own styles, all else with the style at hand.");
        desk.set(PLAIN + "\\low{*A_B}*\\len{_a_}\\add{1}{1}\\num{3}{2}\\ref{k}\\step{k}{1}\\show{k}{1}*\\at{*a}{a}");
        Desk.same("signs", "ab12iii??110", desk.line(0, 0));
        Desk.same("styles", "13" + "111111111" + "0", desk.styles(0, 0));
        desk.set(PLAIN + "*\\rev{a_b}\\rep{2}{_c}\\sub{1}{1}{a_b}\\word{1}{a _b}\\cap{_d}\\rot{1}{_e}\\if{a}{*a}{_f}{}");
        Desk.same("signs", "baccbbDff", desk.line(0, 0));
        Desk.same("styles", "31" + "33" + "3" + "3" + "3" + "3" + "3", desk.styles(0, 0));
    }

    private static void numbers() {
        Desk.says("NUMBERS: perhaps -, then 1 to 4 digits, nothing else");
        is("9999", "\\add{9999}{0}");
        is("-9999", "\\add{-9999}{-0}");
        is("1", "\\add{0001}{0000}");
        for (String wrong : new String[] {"", "-", "00001", "10000", "-10000", "--1", "1-", "+1", "1 ", " 1", "1.0", "a", "1a", "\\ ", "/", ":", "1/", "1:"}) {
            is("!-6", "\\add{" + wrong + "}{1}");
            is("!-6", "\\add{1}{" + wrong + "}");
            is("!-6", "\\mul{" + wrong + "}{1}");
            is("!-6", "\\num{" + wrong + "}{1}");
            is("!-6", "\\rot{" + wrong + "}{a}");
            is("!-6", "\\rep{" + wrong + "}{a}");
            is("!-6", "\\sub{" + wrong + "}{1}{a}");
            is("!-6", "\\sub{1}{" + wrong + "}{a}");
            is("!-6", "\\word{" + wrong + "}{a}");
        }
        is("9", "\\add{*_4}{\\len{abcde}}");
        Desk.says("a SYSTEM: a number 1 to 5");
        is("7 vii VII g 7", "\\num{7}{1} \\num{7}{2} \\num{7}{3} \\num{7}{4} \\num{7}{5}");
        is("vii", "\\num{7}{0002}");
        for (String wrong : new String[] {"0", "6", "-1", "", "x", "00002"}) {
            is("!-6", "\\num{7}{" + wrong + "}");
            is("!-6", "\\step{a}{" + wrong + "}");
            is("!-6", "\\show{a}{" + wrong + "}");
        }
    }

    private static void keys() {
        Desk.says("a KEY: 1 to 12 letters, digits");
        is("1", "\\step{a}{1}");
        is("1", "\\step{azAZ09azAZ09}{1}");
        is("??", "\\ref{azAZ09azAZ09}");
        for (String wrong : new String[] {"", "azAZ09azAZ09a", "a b", " a", "a-", "a.b", "a\\ ", "\\_", "/", ":", "@", "[", "`", "\\{"}) {
            is("!-6", "\\step{" + wrong + "}{1}");
            is("!-6", "\\show{" + wrong + "}{1}");
            is("!-6", "\\ref{" + wrong + "}");
            is("!-6", "\\page{" + wrong + "}");
            Desk.same("label " + wrong, 5 + 16, new Desk().set("x\\label{" + wrong + "}"));
        }
        is("12", "\\step{*a}{1}\\step{_a}{1}");
    }

    private static void cases() {
        Desk.says("up T, low T: all letters great, small. cap T: small letters ahead of which no letter stands are great.");
        is("AZAZ09@[`{", "\\up{azAZ09@[`\\{}");
        is("azaz09@[`{", "\\low{azAZ09@[`\\{}");
        is("", "\\up{}\\low{}\\cap{}");
        is("Az AZ 0A-Z.A", "\\cap{az aZ 0a-z.a}");
        is("Z", "\\cap{z}");
        is("AaA", "\\cap{aaA}");
        is("Zz", "\\cap{zz}");
        is("ZzzAz", "\\cap{zzzAz}");
    }

    private static void turns() {
        Desk.says("rot N T: each letter is the one N further on in its alphabet, going round.");
        is("abzABZ", "\\rot{0}{abzABZ}");
        is("bcaBCA", "\\rot{1}{abzABZ}");
        is("zayZAY", "\\rot{-1}{abzABZ}");
        is("abzABZ", "\\rot{26}{abzABZ}");
        is("abzABZ", "\\rot{-26}{abzABZ}");
        is("p", "\\rot{9999}{a}");
        is("l", "\\rot{-9999}{a}");
        is("@[`{1 ", "\\rot{5}{@[`\\{1 }");
        Desk.says("rev T: from the last sign to the first.");
        is("c b a", "\\rev{a b c}");
        is("a", "\\rev{a}");
        is("", "\\rev{}");
    }

    private static void times() {
        Desk.says("rep N T: N times (0 to 50).");
        is("", "\\rep{0}{ab}");
        is("ab", "\\rep{1}{ab}");
        is(Desk.times("ab", 50), "\\rep{50}{ab}");
        is("", "\\rep{-0}{ab}");
        is("", "\\rep{50}{}");
        is("!-6", "\\rep{51}{ab}");
        is("!-6", "\\rep{-1}{ab}");
        is("!-6", "\\rep{9999}{}");
    }

    private static void parts() {
        Desk.says("sub N M T: M signs of T from sign N on (from 0 on; 0 and more both), as far as there are such.");
        is("abc", "\\sub{0}{3}{abc}");
        is("abc", "\\sub{0}{4}{abc}");
        is("", "\\sub{0}{0}{abc}");
        is("c", "\\sub{2}{1}{abc}");
        is("c", "\\sub{2}{9999}{abc}");
        is("", "\\sub{3}{1}{abc}");
        is("", "\\sub{4}{1}{abc}");
        is("", "\\sub{9999}{9999}{abc}");
        is("", "\\sub{0}{1}{}");
        is("!-6", "\\sub{-1}{1}{abc}");
        is("!-6", "\\sub{0}{-1}{abc}");
        is("xbcy", "x\\sub{1}{2}{abc}y");
        is("abcabc", "\\sub{0}{9}{abc}\\sub{0}{9}{abc}");
    }

    private static void words() {
        Desk.says("word N T: WORD N of T (from 0 on; rows of signs between blanks, hard ones being none), or nothing (also with N below 0).");
        is("a", "\\word{0}{a bb ccc}");
        is("ccc", "\\word{2}{a bb ccc}");
        is("", "\\word{3}{a bb ccc}");
        is("", "\\word{9999}{a bb ccc}");
        is("", "\\word{-1}{a bb ccc}");
        is("", "\\word{-9999}{a}");
        is("bb", "\\word{1}{   a   bb   }");
        is("", "\\word{0}{}");
        is("", "\\word{0}{   }");
        is(" ", "\\word{0}{ \\  }");
        is("a b", "\\word{0}{a\\ b}");
    }

    private static void places() {
        Desk.says("len T: how many signs.");
        is("0", "\\len{}");
        is("3", "\\len{ a }");
        is("2", "\\len{*a_\\*}");
        is("2500", "\\len{\\rep{50}{\\rep{50}{x}}}");
        Desk.says("at S T: the least place (from 0 on) at which S's signs stand in T, or -1.");
        is("0", "\\at{a}{aba}");
        is("1", "\\at{ba}{aba}");
        is("2", "\\at{a}{bba}");
        is("-1", "\\at{c}{aba}");
        is("-1", "\\at{abab}{aba}");
        is("-1", "\\at{a}{}");
        is("0", "\\at{}{}");
        is("0", "\\at{}{a}");
        is("0", "\\at{aba}{aba}");
        is("-1", "\\at{A}{a}");
        is("-1", "\\at{ac}{aabc}");
        is("xyz1", "xyz\\at{b}{ab}");
    }

    private static void sums() {
        Desk.says("add N M, mul N M: the sum, product.");
        is("0", "\\add{1}{-1}");
        is("19998", "\\add{9999}{9999}");
        is("-19998", "\\add{-9999}{-9999}");
        is("99980001", "\\mul{9999}{9999}");
        is("99980001", "\\mul{-9999}{-9999}");
        is("-9999", "\\mul{9999}{-1}");
        is("0", "\\mul{0}{-9999}");
        is("!-6", "\\add{\\add{9999}{1}}{0}");
        is("-10", "\\add{\\add{5}{-15}}{0}");
    }

    private static void counters() {
        Desk.says("step K Y: COUNTER K (from its first step on; 0 as a round begins) grows by one, and is told in a system; "
            + "show K Y: it is told (0 without a step).");
        is("0", "\\show{a}{1}");
        is("00000", "\\show{a}{1}\\show{a}{2}\\show{a}{3}\\show{a}{4}\\show{a}{5}");
        is("1ii3IV", "\\step{a}{1}\\step{a}{2}\\step{a}{5}\\step{a}{3}");
        is("1c3", "\\step{a}{1}\\sub{0}{0}{\\step{a}{1}}\\step{a}{4}\\show{a}{1}");
        is("10", "\\step{a}{1}\\show{A}{1}");
        is("10", "\\step{a}{1}\\show{a0}{1}");
        is("10", "\\step{ab}{1}\\show{a}{1}");
        Desk desk = new Desk();
        desk.set("= \\step{a}{1}\n\\step{a}{1}\\label{k}");
        Desk.same("rounds", 2, desk.room.count(9));
        Desk.same("0 as a round begins", "1 1//  2/=", desk.proof());
        desk.set("a\n\n@set indent 0\n\\show{a}{1}");
        Desk.same("and in each set", "0", desk.line(0, 2));
        Desk.same("told in counters of its own", "0", desk.told("\\show{a}{1}"));
    }

    private static void choices() {
        Desk.says("if S T { } { }: if both have the same signs (styles aside), the third, else the fourth is worked as a group.");
        is("y", "\\if{}{}{y}{n}");
        is("n", "\\if{}{ }{y}{n}");
        is("y", "\\if{*a_b}{ab}{y}{n}");
        is("n", "\\if{a}{A}{y}{n}");
        is("n", "\\if{ab}{a}{y}{n}");
        is("n", "\\if{a}{ab}{y}{n}");
        is("n", "\\if{ab}{cb}{y}{n}");
        is("n", "\\if{ab}{ac}{y}{n}");
        is("y", "\\if{\\up{a}}{A}{y}{\\zz}");
        is("!-4", "\\if{a}{b}{y}{\\zz}");
        is("!-3", "\\if{a}{a}{\\up{}}{y}}");
        Desk desk = new Desk();
        desk.set(PLAIN + "a\\if{}{}{*b}{}c*\\if{}{x}{}{*d}e");
        Desk.same("as a group", "01001", desk.styles(0, 0));
    }

    private static void digits() {
        Desk.says("num N Y: N in a system.");
        is("12 xii XII l c", "\\num{12}{1} \\num{12}{2} \\num{12}{3} \\num{12}{4} \\num{12}{5}");
        Desk.says("Then comes what the call asks of them, from the left (5).");
        is("!-4", "\\rep{51}{\\zz}");
        is("!-5", "\\rep{51}{\\up}");
        is("!-6", "\\step{}{\\step{a}{1}}");
        Desk.says("SYSTEMS: 1 digits (- ahead of what is below 0)");
        is("0 9 10 9999 -1 -9999", "\\num{0}{1} \\num{9}{1} \\num{10}{1} \\num{9999}{1} \\num{-1}{1} \\num{-9999}{1}");
    }

    private static void roman() {
        Desk.says("2, 3 ROMAN numerals (i v x l c d m; iv, ix, xl, xc, cd, cm), small, great, of 1 to 3999");
        String[] due = {"i", "ii", "iii", "iv", "v", "vi", "viii", "ix", "x", "xiv", "xix", "xl", "xliv", "xlix", "l", "lxxxviii", "xc",
            "xcix", "c", "cd", "cdxliv", "d", "dccclxxxviii", "cm", "m", "mmmcmxcix"};
        int[] values = {1, 2, 3, 4, 5, 6, 8, 9, 10, 14, 19, 40, 44, 49, 50, 88, 90, 99, 100, 400, 444, 500, 888, 900, 1000, 3999};
        for (int i = 0; i < due.length; i++) {
            is(due[i] + " " + due[i].toUpperCase(), "\\num{" + values[i] + "}{2} \\num{" + values[i] + "}{3}");
        }
        Desk.says("What 2 to 4 don't have is told as by 1.");
        is("0 4000 9999 -1 -3999", "\\num{0}{2} \\num{4000}{2} \\num{9999}{2} \\num{-1}{2} \\num{-3999}{2}");
        is("0 4000 9999 -1 -3999", "\\num{0}{3} \\num{4000}{3} \\num{9999}{3} \\num{-1}{3} \\num{-3999}{3}");
        is("0 -1 -9999", "\\num{0}{4} \\num{-1}{4} \\num{-9999}{4}");
    }

    private static void lettered() {
        Desk.says("4 a to z, aa, ab .. az, ba .. zz, aaa .., of 1 and more");
        is("a b y z aa ab", "\\num{1}{4} \\num{2}{4} \\num{25}{4} \\num{26}{4} \\num{27}{4} \\num{28}{4}");
        is("az ba bz ca zz aaa aab", "\\num{52}{4} \\num{53}{4} \\num{78}{4} \\num{79}{4} \\num{702}{4} \\num{703}{4} \\num{704}{4}");
        is("aaz aba nto", "\\num{728}{4} \\num{729}{4} \\num{9999}{4}");
    }

    private static void thirtySix() {
        Desk.says("5 with 36 digits 0 to 9, a to z (- ahead).");
        is("0 9 a z 10 zz 100 7pr", "\\num{0}{5} \\num{9}{5} \\num{10}{5} \\num{35}{5} \\num{36}{5} \\num{1295}{5} \\num{1296}{5} \\num{9999}{5}");
        is("-1 -a -10 -7pr", "\\num{-1}{5} \\num{-10}{5} \\num{-36}{5} \\num{-9999}{5}");
    }
}
