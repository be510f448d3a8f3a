/** The edges that the promises 1 to 22 name, promise by promise. */
public final class PromisesEdgeTest {
    private interface Call {
        int go();
    }

    public static void main(String[] args) {
        newObject();
        ownMemory();
        feed();
        write();
        add();
        replaceFinds();
        replaceWhole();
        replaceAlike();
        replaceGreat();
        replaceWrong();
        replaceWork();
        replaceTooLong();
        back();
        find();
        letter();
        set();
        pages();
        readsOfAProof();
        origin();
        labelled();
        tellTexts();
        tellWhatIsKnown();
        hyphens();
        answer();
        keep();
        changed();
        changedWrong();
        counts();
        countsOfAProof();
        countsOfPutDashes();
        Desk.close();
    }

    private static String thrown(Call call) {
        try {
            return "" + call.go();
        } catch (IllegalStateException state) {
            return state.getClass() == IllegalStateException.class ? "state" : "other";
        } catch (IndexOutOfBoundsException index) {
            return index.getClass() == IndexOutOfBoundsException.class ? "index" : "other";
        } catch (IllegalArgumentException argument) {
            return argument.getClass() == IllegalArgumentException.class ? "argument" : "other";
        }
    }

    private static void newObject() {
        Desk.says("An empty MANUSCRIPT and TAPE, no PROOF, none KEPT, an empty ANSWER.");
        TypeRoom room = new TypeRoom();
        for (int what = 0; what <= 19; what++) {
            Desk.same("count " + what, 0, room.count(what));
        }
        Desk.same("letter", -1, room.letter(0));
        Desk.same("answer", -1, room.answer(0));
        Desk.same("no proof", "state", thrown(() -> room.pages()));
        Desk.same("none to keep", "state", thrown(() -> room.keep()));
        Desk.same("back", false, room.back());
        Desk.same("labelled", -1, room.labelled());
        Desk.same("tell", 0, room.tell());
        Desk.same("hyphens", -1, room.hyphens());
        Desk.same("find", -1, room.find(0));
        Desk.same("replace", -2, room.replace(0));
        Desk.same("add", 0, room.add());
        Desk.same("write", 0, room.write());
        Desk.same("set", 0, room.set());
        Desk.same("a proof of no pages", "0", thrown(() -> room.pages()));
        Desk.same("none kept", "state", thrown(() -> room.changed(0)));
    }

    private static void ownMemory() {
        Desk.says("All memory is the class's own.");
        Desk one = new Desk();
        Desk two = new Desk();
        one.set("@def m 0 x\n@pat a1b\na\\label{k}");
        one.room.keep();
        one.feed("tape");
        Desk.same("another object has nothing of it", "0 0 0 0 0", two.room.count(0) + " " + two.room.count(1) + " " + two.room.count(14) + " "
            + two.room.count(15) + " " + two.room.count(16));
        two.set("= b\n}");
        Desk.same("nor does it change it", "4 1 1 1", one.room.count(0) + " " + one.room.pages() + " " + one.room.count(16) + " " + one.room.count(7));
        Desk.same("kept", 0, one.room.changed(0));
    }

    private static void feed() {
        Desk.says("Up to 24 signs come behind the TAPE: the bytes of a, of b, of c, each from the highest on; others than 10 and 32 to 126, and what "
            + "is beyond 4,000, are left out: how many there are.");
        Desk desk = new Desk();
        Desk.same("none", 0, desk.room.feed(0, 0, 0));
        Desk.same("24", 24, desk.room.feed(0x6162636465666768L, 0x696A6B6C6D6E6F70L, 0x7172737475767778L));
        Desk.same("behind it", 27, desk.room.feed(0x4100000000000000L, 0x0042000000000000L, 0x0000000000000043L));
        Desk.same("none of these", 27, desk.room.feed(-1L, Long.MIN_VALUE, 0x01091F7F80FF0B0DL));
        Desk.same("a sign among others", 28, desk.room.feed(-1L, 0xFFFFFF44FFFFFFFFL, 0x0102030405060708L));
        desk.room.write();
        Desk.same("from the highest on", "abcdefghijklmnopqrstuvwxABCD", desk.manuscript());
        for (int i = 0; i < 166; i++) {
            desk.room.feed(0x6161616161616161L, 0x6161616161616161L, 0x6161616161616161L);
        }
        Desk.same("3,984", 3984, desk.room.count(0));
        Desk.same("16 of 24", 4000, desk.room.feed(0x6262626262626262L, 0x6262626262626263L, 0x6464646464646464L));
        Desk.same("no more", 4000, desk.room.feed(0x6565656565656565L, 0, 0));
        desk.room.write();
        Desk.same("the last", (int) 'c', desk.room.letter(3999));
    }

    private static void write() {
        Desk.says("The TAPE becomes the MANUSCRIPT: how many lines it has.");
        Desk desk = new Desk();
        Desk.same("three", 3, desk.write("a\nb\nc"));
        Desk.same("in place of it", 1, desk.write("d\n"));
        Desk.same("text", "d\n", desk.manuscript());
        Desk.same("of an empty tape", 0, desk.room.write());
        Desk.same("empty", 0, desk.room.count(1));
        Desk.same("4,000 lines", 4000, desk.write(Desk.times("\n", 4000)));
        Desk.same("no work", 0, desk.room.count(14));
    }

    private static int added(Desk desk, String text) {
        desk.feed(text);
        return desk.room.add();
    }

    private static void add() {
        Desk.says("The TAPE comes behind the MANUSCRIPT: how many lines that has. NONE, and nothing comes, if it would have more than 4,000 signs; "
            + "-4, and nothing comes, if there is not so much WORK ever as the MANUSCRIPT has signs, which is spent else.");
        Desk desk = new Desk();
        Desk.same("to nothing", 1, added(desk, "ab"));
        Desk.same("costs nothing", 0, desk.room.count(14));
        Desk.same("in the same line", 2, added(desk, "c\nd"));
        Desk.same("costs two", 2, desk.room.count(14));
        Desk.same("nothing comes", 2, added(desk, ""));
        Desk.same("text", "abc\nd", desk.manuscript());
        Desk.same("costs five", 7, desk.room.count(14));
        desk.write(Desk.times("x", 3999));
        Desk.same("two too many", -1, added(desk, "yz"));
        Desk.same("nothing came", 3999, desk.room.count(1));
        Desk.same("nothing spent", 7, desk.room.count(14));
        Desk.same("can't be taken back", 4, desk.room.count(15));
        Desk.same("4,000", 1, added(desk, "y"));
        Desk.same("3,999 spent", 4006, desk.room.count(14));
        Desk other = new Desk();
        other.spend(400000 - 3);
        other.write("abcd");
        int backs = other.room.count(15);
        Desk.same("not so much", -4, added(other, "e"));
        Desk.same("nothing came", "abcd", other.manuscript());
        Desk.same("nothing spent", 400000 - 3, other.room.count(14));
        Desk.same("can't be taken back", backs, other.room.count(15));
        other.write(Desk.times("x", 3999));
        Desk.same("NONE ahead of -4", -1, added(other, "yz"));
        other.write("abc");
        Desk.same("just so much", 1, added(other, "d"));
        Desk.same("spent", 400000, other.room.count(14));
    }

    private static String replaced(String text, String tape, int ways) {
        Desk desk = new Desk();
        desk.write(text);
        desk.feed(tape);
        int times = desk.room.replace(ways);
        return times + ":" + desk.manuscript();
    }

    private static void replaceFinds() {
        Desk.says("The TAPE is OLD (up to its first 10; 1 to 60 signs) and NEW (all behind that)");
        Desk.same("up to its first 10", "1:a\nc", replaced("ab", "b\n\nc", 0));
        Desk.same("OLD has no 10", "0:b\n", replaced("b\n", "c\nb\n", 0));
        Desk.same("1 sign", "1:x", replaced("a", "a\nx", 0));
        Desk.same("60 signs", "1:x", replaced(Desk.times("a", 60), Desk.times("a", 60) + "\nx", 0));
        Desk.same("61 signs", -2, Integer.parseInt(replaced("a", Desk.times("a", 61) + "\nx", 0).split(":")[0]));
        Desk.same("a blank is a sign", "1:axb", replaced("a b", " \nx", 0));
        Desk.says("wherever OLD stands in the MANUSCRIPT, from its beginning on, each time going on behind what was found, NEW comes in its place: how "
            + "many times.");
        Desk.same("at both ends", "2:xbx", replaced("aba", "a\nx", 0));
        Desk.same("all of it", "1:x", replaced("aba", "aba\nx", 0));
        Desk.same("behind what was found", "2:xxa", replaced("aaaaa", "aa\nx", 0));
        Desk.same("NEW isn't looked at", "3:aaaaaa", replaced("aaa", "a\naa", 0));
        Desk.same("what NEW makes isn't found", "1:ab", replaced("aabb", "ab\n", 0));
        Desk.same("none", "0:aba", replaced("aba", "c\nx", 0));
        Desk.same("nearly at the end", "0:aba", replaced("aba", "bac\nx", 0));
        Desk.same("NEW is nothing", "2:b", replaced("aba", "a\n", 0));
        Desk.same("all goes", "3:", replaced("aaa", "a\n", 0));
        Desk.same("NEW has a 10", "1:a\n\nc", replaced("abc", "b\n\n\n", 0));
        Desk.same("by itself", "2:aba", replaced("aba", "a\na", 0));
        Desk.same("in nothing", "0:", replaced("", "a\nb", 0));
        Desk.same("60 signs", "1:x", replaced(Desk.times("a", 60), Desk.times("a", 60) + "\nx", 0));
    }

    private static void replaceWhole() {
        Desk.says("1: the signs right ahead and behind (in the MANUSCRIPT as it was) aren't letters or digits");
        for (char sign = 32; sign <= 126; sign++) {
            boolean part = Character.isLetterOrDigit(sign);
            Desk.same("behind " + sign, (part ? "0:" : "1:") + (part ? "ink" : "x") + sign, replaced("ink" + sign, "ink\nx", 1));
            Desk.same("ahead " + sign, (part ? "0:" : "1:") + sign + (part ? "ink" : "x"), replaced(sign + "ink", "ink\nx", 1));
        }
        Desk.same("a 10", "1:\nx\n", replaced("\nink\n", "ink\nx", 1));
        Desk.same("at the ends", "1:x", replaced("ink", "ink\nx", 1));
        Desk.same("as it was: a letter that came ahead", "2:xx", replaced("--", "-\nx", 1));
        Desk.same("as it was: a letter that went ahead", "0:aa-", replaced("aa-", "a\n-", 1));
        Desk.same("beside what was found", "0:abab", replaced("abab", "ab\nx", 1));
        Desk.same("one that isn't whole, then one that is", "1:xink x", replaced("xink ink", "ink\nx", 1));
        Desk.same("one that is whole, then one that isn't", "1:x inky", replaced("ink inky", "ink\nx", 1));
    }

    private static void replaceAlike() {
        Desk.says("2: great and small letters are alike");
        Desk.same("alike", "4:xxxx", replaced("abABaBAb", "aB\nx", 2));
        Desk.same("not else", "1:abABxAb", replaced("abABaBAb", "aB\nx", 0));
        Desk.same("the ends of the alphabets", "2:xx", replaced("azAZ", "AZ\nx", 2));
        Desk.same("other signs are not", "1:@`[x", replaced("@`[{", "{\nx", 2));
    }

    private static void replaceGreat() {
        Desk.says("4: if what is found begins with a great letter, and NEW with a small one, that becomes great; if what is found has two letters at "
            + "least, and all its letters are great, all letters of NEW become great.");
        Desk.same("begins great", "1:New", replaced("Old", "Old\nnew", 4));
        Desk.same("NEW begins great", "1:New", replaced("Old", "Old\nNew", 4));
        Desk.same("NEW begins with another sign", "1:-new", replaced("Old", "Old\n-new", 4));
        Desk.same("NEW is nothing", "1:", replaced("Old", "Old\n", 4));
        Desk.same("begins small", "1:new", replaced("oLD", "oLD\nnew", 4));
        Desk.same("all great", "1:NEW Z.9A", replaced("OLD", "OLD\nnew z.9a", 4));
        Desk.same("two letters", "1:NEW", replaced("OL", "OL\nnew", 4));
        Desk.same("one letter", "1:New", replaced("O", "O\nnew", 4));
        Desk.same("one letter and signs", "1:New", replaced("O9-", "O9-\nnew", 4));
        Desk.same("two letters and signs", "1:NEW", replaced("9O-L", "9O-L\nnew", 4));
        Desk.same("signs beside the alphabets are no letters", "1:NEW 1:NEW", replaced("O@L", "O@L\nnew", 4) + " " + replaced("O[L", "O[L\nnew", 4));
        Desk.same("nor small ones", "1:NEW 1:NEW", replaced("O`L", "O`L\nnew", 4) + " " + replaced("O{L", "O{L\nnew", 4));
        Desk.same("nor do they begin great", "1:new 1:new", replaced("@ol", "@ol\nnew", 4) + " " + replaced("[ol", "[ol\nnew", 4));
        Desk.same("one of them small", "1:New", replaced("OLd", "OLd\nnew", 4));
        Desk.same("no letters", "1:new", replaced("99", "99\nnew", 4));
        Desk.same("begins with another sign", "1:new", replaced("-Old", "-Old\nnew", 4));
        Desk.same("not without 4", "1:new", replaced("OLD", "OLD\nnew", 0));
        Desk.same("by what is found, not by OLD", "3:new New NEW", replaced("old Old OLD", "oLd\nnew", 6));
        Desk.same("the ends of the alphabets", "1:AZ 1:ZA", replaced("AA", "AA\naz", 4) + " " + replaced("ZZ", "ZZ\nza", 4));
        Desk.same("signs beside the alphabets", "1:`{@[", replaced("AZ", "AZ\n`{@[", 4));
        Desk.same("all of them", "2:new older NEW", replaced("old older OLD", "Old\nnew", 7));
        Desk.same("a sign behind what is found isn't of it", "1:NEWd", replaced("OLd", "OL\nnew", 4));
        Desk.same("nor is a great letter", "1:NewL", replaced("OL", "O\nnew", 4));
        Desk.same("nor is one ahead", "1:oNew", replaced("oO", "O\nnew", 4));
        Desk.says("ways is a sum of 1:");
        String[] due = {"2:new OLD Old xnew", "1:new OLD Old xold", "4:new new new xnew", "3:new new new xold", "2:new OLD Old xnew",
            "1:new OLD Old xold", "4:new NEW New xnew", "3:new NEW New xold"};
        for (int ways = 0; ways <= 7; ways++) {
            Desk.same("ways " + ways, due[ways], replaced("old OLD Old xold", "old\nnew", ways));
        }
        String[] great = {"1:new", "1:new", "1:new", "1:new", "1:NEW", "1:NEW", "1:NEW", "1:NEW"};
        for (int ways = 0; ways <= 7; ways++) {
            Desk.same("of great letters, ways " + ways, great[ways], replaced("OLD", "OLD\nnew", ways));
        }
    }

    private static void replaceWrong() {
        Desk.says("-2 without a 10, or OLD isn't so;");
        Desk.same("without a 10", "-2:abc", replaced("abc", "a", 0));
        Desk.same("nothing at all", "-2:abc", replaced("abc", "", 0));
        Desk.same("OLD is nothing", "-2:abc", replaced("abc", "\na", 0));
        Desk.same("a 10 alone", "-2:abc", replaced("abc", "\n", 0));
        Desk.same("OLD of 61", "-2:" + Desk.times("a", 61), replaced(Desk.times("a", 61), Desk.times("a", 61) + "\nb", 0));
        Desk.says("IllegalArgumentException: ways isn't 0 .. 7.");
        for (int ways = 0; ways <= 7; ways++) {
            Desk.same("ways " + ways, "1:x", replaced("a", "a\nx", ways).toLowerCase());
        }
        for (int ways : new int[] {-1, 8, 9, 16, -8, Integer.MAX_VALUE, Integer.MIN_VALUE}) {
            Desk desk = new Desk();
            desk.write("abc");
            desk.feed("a\nb");
            Desk.same("ways " + ways, "argument", thrown(() -> desk.room.replace(ways)));
            Desk.same("nothing changes", "abc 0 1", desk.manuscript() + " " + desk.room.count(14) + " " + desk.room.count(15));
            desk.feed("a");
            Desk.same("ahead of -2", "argument", thrown(() -> desk.room.replace(ways)));
        }
    }

    private static void replaceWork() {
        Desk.says("-4 if there is not so much WORK ever: as many as the MANUSCRIPT has signs, then, each time that something is found, 10 and NEW's "
            + "length.");
        Desk.says("The first that is met: nothing changes then, but WORK that is spent.");
        int[] lefts = {0, 4, 5, 17, 18, 30, 31, 44};
        int[] answers = {-4, -4, -4, -4, -4, -4, 2, 2};
        int[] spent = {0, 0, 5, 5, 18, 18, 31, 31};
        for (int i = 0; i < lefts.length; i++) {
            Desk desk = new Desk();
            desk.spend(400000 - lefts[i]);
            desk.write("ab ab");
            int backs = desk.room.count(15);
            desk.feed("ab\nxyz");
            Desk.same("with " + lefts[i], answers[i], desk.room.replace(0));
            Desk.same("spent", spent[i], lefts[i] - (400000 - desk.room.count(14)));
            Desk.same("text", answers[i] < 0 ? "ab ab" : "xyz xyz", desk.manuscript());
            Desk.same("what back can take back", Math.min(6, answers[i] < 0 ? backs : backs + 1), desk.room.count(15));
        }
        Desk desk = new Desk();
        desk.write("abc");
        desk.feed("x\ny");
        desk.room.replace(0);
        Desk.same("found none", 3, desk.room.count(14));
        desk.feed("x");
        desk.room.replace(0);
        Desk.same("-2 costs nothing", 3, desk.room.count(14));
        desk.feed("b\n");
        desk.room.replace(0);
        Desk.same("NEW of nothing costs 10", 3 + 3 + 10, desk.room.count(14));
    }

    private static void replaceTooLong() {
        Desk.says("-3 if the MANUSCRIPT would have more than 4,000 signs (asked behind each NEW that came, of what is there up to it, and at the end).");
        Desk desk = new Desk();
        desk.write("a" + Desk.times("b", 3999));
        desk.feed("a\nxy");
        Desk.same("at the end", -3, desk.room.replace(0));
        Desk.same("spent", 4000 + 12, desk.room.count(14));
        Desk.same("nothing changes", 4000, desk.room.count(1));
        Desk.same("nor what back can take back", 1, desk.room.count(15));
        desk.feed("a\nx");
        Desk.same("just 4,000", 1, desk.room.replace(0));
        Desk other = new Desk();
        other.write(Desk.times("a", 50) + Desk.times("b", 3950));
        other.feed("a\n" + Desk.times("x", 100));
        Desk.same("behind each NEW", -3, other.room.replace(0));
        Desk.same("found 41 times", 4000 + 41 * 110, other.room.count(14));
        Desk third = new Desk();
        third.write(Desk.times("a", 40));
        third.feed("a\n" + Desk.times("x", 100));
        Desk.same("4,000 up to the last", 40, third.room.replace(0));
        third.write("ab" + Desk.times("a", 39));
        third.feed("a\n" + Desk.times("x", 100));
        int before = third.room.count(14);
        Desk.same("4,001 behind the last", -3, third.room.replace(0));
        Desk.same("found 40 times", 41 + 40 * 110, third.room.count(14) - before);
        Desk fourth = new Desk();
        fourth.write("abbbb");
        fourth.feed("a\n" + Desk.times("x", 3996));
        Desk.same("just 4,000 with the rest", 1, fourth.room.replace(0));
        Desk.same("work ahead of length", -4, workAheadOfLength());
    }

    private static int workAheadOfLength() {
        Desk desk = new Desk();
        desk.spend(400000 - 4011);
        desk.write("a" + Desk.times("b", 3999));
        desk.feed("a\nxy");
        return desk.room.replace(0);
    }

    private static void back() {
        Desk.says("The latest write(), add(), replace() that was done (a replace() with 0 isn't) is taken back, of the latest 6 such: true; false "
            + "without one.");
        Desk desk = new Desk();
        Desk.same("without one", false, desk.room.back());
        desk.write("a");
        added(desk, "b");
        desk.feed("a\nc");
        desk.room.replace(0);
        desk.feed("x\nc");
        desk.room.replace(0);
        desk.feed("x");
        desk.room.replace(0);
        Desk.same("three", 3, desk.room.count(15));
        Desk.same("replace", true, desk.room.back());
        Desk.same("ab", "ab", desk.manuscript());
        Desk.same("add", true, desk.room.back());
        Desk.same("a", "a", desk.manuscript());
        Desk.same("write", true, desk.room.back());
        Desk.same("nothing", "", desk.manuscript());
        Desk.same("none", false, desk.room.back());
        Desk.same("count", 0, desk.room.count(15));
        for (int i = 1; i <= 7; i++) {
            desk.write(Desk.times("x", i));
            Desk.same("count", Math.min(6, i), desk.room.count(15));
        }
        for (int i = 6; i >= 1; i--) {
            Desk.same("back to " + i, true, desk.room.back());
            Desk.same("there", i, desk.room.count(1));
        }
        Desk.same("not the seventh", false, desk.room.back());
        Desk.same("stays", 1, desk.room.count(1));
        Desk again = new Desk();
        for (int i = 1; i <= 7; i++) {
            again.write("text " + i);
        }
        again.room.back();
        again.write("text 8");
        again.write("text 9");
        for (int due : new int[] {8, 6, 5, 4, 3, 2}) {
            Desk.same("behind a back: true", true, again.room.back());
            Desk.same("the one ahead of it that was done", "text " + due, again.manuscript());
        }
        Desk.same("six in all", false, again.room.back());
        desk.room.write();
        Desk.same("an empty one is done", 1, desk.room.count(15));
        desk.room.add();
        Desk.same("an add of nothing is done", 2, desk.room.count(15));
        desk.write("a");
        desk.feed("a\na");
        desk.room.replace(0);
        Desk.same("a replace by itself is done", 4, desk.room.count(15));
        int work = desk.room.count(14);
        desk.set("b");
        desk.feed("tape");
        desk.room.back();
        Desk.same("the proof stays, the tape stays", "  b/= 4", desk.proof() + " " + desk.room.count(0));
        Desk.same("work stays spent", true, desk.room.count(14) > work);
    }

    private static int found(Desk desk, String text, int from) {
        desk.feed(text);
        return desk.room.find(from);
    }

    private static void find() {
        Desk.says("The least place, from a place on, at which the TAPE stands in the MANUSCRIPT; NONE if there is none, the TAPE is empty, or the place "
            + "isn't 0 .. the MANUSCRIPT's length.");
        Desk desk = new Desk();
        desk.write("abab\nab");
        int[] due = {0, 2, 2, 5, 5, 5, -1, -1};
        for (int from = 0; from < due.length; from++) {
            Desk.same("from " + from, due[from], found(desk, "ab", from));
        }
        Desk.same("-1", -1, found(desk, "ab", -1));
        Desk.same("8", -1, found(desk, "b", 8));
        Desk.same("least", -1, found(desk, "ab", Integer.MIN_VALUE));
        Desk.same("most", -1, found(desk, "ab", Integer.MAX_VALUE));
        Desk.same("empty", -1, found(desk, "", 0));
        Desk.same("empty at the end", -1, found(desk, "", 7));
        Desk.same("all of it", 0, found(desk, "abab\nab", 0));
        Desk.same("longer", -1, found(desk, "abab\nabc", 0));
        Desk.same("over lines", 3, found(desk, "b\na", 0));
        Desk.same("great and small are two", -1, found(desk, "AB", 0));
        Desk.same("the last sign", 6, found(desk, "b", 6));
        Desk.same("no work", 0, desk.room.count(14));
        desk.write("");
        Desk.same("in nothing", -1, found(desk, "a", 0));
    }

    private static void letter() {
        Desk.says("Sign k of the MANUSCRIPT; NONE without one.");
        Desk desk = new Desk();
        desk.write("a\nz");
        int[] places = {-1, 0, 1, 2, 3, 4000, Integer.MAX_VALUE, Integer.MIN_VALUE};
        int[] due = {-1, 97, 10, 122, -1, -1, -1, -1};
        for (int i = 0; i < places.length; i++) {
            Desk.same("letter " + places[i], due[i], desk.room.letter(places[i]));
        }
    }

    private static void set() {
        Desk.says("The MANUSCRIPT is set: 0, and there is its PROOF; else the FAULT, and there is no PROOF.");
        Desk desk = new Desk();
        Desk.same("nothing", 0, desk.set(""));
        Desk.same("no pages", 0, desk.room.pages());
        Desk.same("a text", 0, desk.set("a"));
        Desk.same("a page", 1, desk.room.pages());
        Desk.same("a fault", 2 + 16, desk.set("}"));
        Desk.same("none", "state", thrown(() -> desk.room.pages()));
        Desk.same("the same again", 2 + 16, desk.room.set());
        Desk.same("none still", "state", thrown(() -> desk.room.pages()));
        desk.room.back();
        Desk.same("another", 0, desk.room.set());
        Desk.same("a page again", 1, desk.room.pages());
        desk.write("b");
        Desk.same("the proof is as it was set", "  a/=", desk.proof());
    }

    private static void pages() {
        Desk.says("How many pages the PROOF has. IllegalStateException: there is none.");
        Desk desk = new Desk();
        Desk.same("none", "state", thrown(() -> desk.room.pages()));
        desk.set("");
        Desk.same("of nothing", "0", thrown(() -> desk.room.pages()));
        desk.set("a\n@page\nb");
        Desk.same("two", "2", thrown(() -> desk.room.pages()));
        Desk.same("99", "99", desk.set(Desk.times(">\n@page\n", 99)) == 0 ? thrown(() -> desk.room.pages()) : "fault");
        desk.set("@x");
        Desk.same("none behind a fault", "state", thrown(() -> desk.room.pages()));
        Desk.says("How many lines a page has (from 0 on).");
        desk.set("@set high 5\n>a\n>b\n>c\n>d\n>e\n>f");
        Desk.same("page 0, page 1", "5 1", desk.room.lines(0) + " " + desk.room.lines(1));
        Desk.says("How many signs a line of a page has.");
        desk.set("@set wide 80\n>\n>a\n>" + Desk.times("b", 80));
        Desk.same("0, 1, 80", "0 1 80", desk.room.length(0, 0) + " " + desk.room.length(0, 1) + " " + desk.room.length(0, 2));
        Desk.says("A sign of a line.");
        StringBuilder all = new StringBuilder();
        for (char sign = 32; sign <= 126; sign++) {
            all.append(sign);
        }
        desk.set("@set wide 80\n>" + all.substring(0, 48) + "\n>" + all.substring(48));
        Desk.same("each sign there is", all.toString(), desk.line(0, 0) + desk.line(0, 1));
        Desk.says("Its style.");
        desk.set("a*b_c*d");
        Desk.same("0 to 3", "000132", desk.styles(0, 0));
    }

    private static void readsOfAProof() {
        Desk.says("IllegalStateException: no PROOF. IndexOutOfBoundsException: no such page (likewise below: page, line, sign).");
        Desk desk = new Desk();
        int[] wrong = {-1, Integer.MIN_VALUE, Integer.MAX_VALUE};
        for (int k : wrong) {
            Desk.same("no proof: lines", "state", thrown(() -> desk.room.lines(k)));
            Desk.same("no proof: length", "state", thrown(() -> desk.room.length(k, 0)));
            Desk.same("no proof: sign", "state", thrown(() -> desk.room.sign(0, 0, k)));
            Desk.same("no proof: style", "state", thrown(() -> desk.room.style(0, k, 0)));
            Desk.same("no proof: origin", "state", thrown(() -> desk.room.origin(0, k)));
        }
        desk.set("@set indent 0\nab\n\nc\n@page\n*d");
        for (int page : new int[] {-1, 2, 3, Integer.MIN_VALUE, Integer.MAX_VALUE}) {
            Desk.same("lines " + page, "index", thrown(() -> desk.room.lines(page)));
            Desk.same("length " + page, "index", thrown(() -> desk.room.length(page, 0)));
            Desk.same("sign " + page, "index", thrown(() -> desk.room.sign(page, 0, 0)));
            Desk.same("style " + page, "index", thrown(() -> desk.room.style(page, 0, 0)));
            Desk.same("origin " + page, "index", thrown(() -> desk.room.origin(page, 0)));
        }
        for (int line : new int[] {-1, 3, 4, Integer.MIN_VALUE, Integer.MAX_VALUE}) {
            Desk.same("length of " + line, "index", thrown(() -> desk.room.length(0, line)));
            Desk.same("sign of " + line, "index", thrown(() -> desk.room.sign(0, line, 0)));
            Desk.same("style of " + line, "index", thrown(() -> desk.room.style(0, line, 0)));
            Desk.same("origin of " + line, "index", thrown(() -> desk.room.origin(0, line)));
            Desk.same("of the last page", "index", thrown(() -> desk.room.length(1, line == 3 ? 1 : line)));
        }
        for (int k : new int[] {-1, 2, 3, Integer.MIN_VALUE, Integer.MAX_VALUE}) {
            Desk.same("sign " + k, "index", thrown(() -> desk.room.sign(0, 0, k)));
            Desk.same("style " + k, "index", thrown(() -> desk.room.style(0, 0, k)));
        }
        Desk.same("of an empty line", "index index 0", thrown(() -> desk.room.sign(0, 1, 0)) + " " + thrown(() -> desk.room.style(0, 1, 0))
            + " " + desk.room.length(0, 1));
        Desk.same("the last page, line, sign", "2 1 1 100 1 6", desk.room.pages() + " " + desk.room.lines(1) + " " + desk.room.length(1, 0) + " "
            + desk.room.sign(1, 0, 0) + " " + desk.room.style(1, 0, 0) + " " + desk.room.origin(1, 0));
        Desk.same("the first", "3 2 97 98 0", desk.room.lines(0) + " " + desk.room.length(0, 0) + " " + desk.room.sign(0, 0, 0) + " "
            + desk.room.sign(0, 0, 1) + " " + desk.room.style(0, 0, 1));
        Desk.same("what throws changes nothing", "ab//c/=d/=", desk.proof());
    }

    private static void origin() {
        Desk.says("The LINE of the block that a line of a page is of (of a note's line: of its mark's block); 0 of a head, of an empty line between "
            + "blocks or ahead of notes, of the line of -.");
        Desk desk = new Desk();
        desk.set("@set head 1\n@set high 16\n@set wide 12\n= a\n@toc\nb\nc\\note{d eeeeeeeee}\n\n\n- f\n g\n>h\n>\n");
        Desk.same("of all kinds", "0 0 4 0 5 0 6 0 10 0 12 12 0 0 6 6", desk.origins(0));
        Desk.same("an empty raw line is of its block", 12, desk.room.origin(0, 11));
        desk.set("@set high 5\na\\note{b}");
        Desk.same("ahead of notes, and the line of - there", "2 0 0 0 2", desk.origins(0));
        desk.set("|\n|a\n|b\n\n@index\nc\\index{d}");
        Desk.same("a table's, an index's", "1 1 1 1 0 5 0 6", desk.origins(0));
    }

    private static int page(Desk desk, String key) {
        desk.feed(key);
        return desk.room.labelled();
    }

    private static void labelled() {
        Desk.says("The TAPE is a label's KEY: the page (from 0 on) of the PROOF that has it; its REF is the ANSWER. NONE, and the ANSWER stays, if there "
            + "is no such label, or no PROOF.");
        Desk desk = new Desk();
        desk.tell("old");
        desk.write("a\\label{k}");
        Desk.same("no proof", "-1 old", page(desk, "k") + " " + desk.answer());
        desk.set("@set first 9\na\\label{k}\n@page\n= b\\label{kk}\n@page\n  # c\\label{K}");
        Desk.same("no such label", "-1 old", page(desk, "x") + " " + desk.answer());
        Desk.same("part of one", "-1 old", page(desk, "") + " " + desk.answer());
        Desk.same("more than one", "-1 old", page(desk, "kkk") + " " + desk.answer());
        Desk.same("with a blank", "-1 old", page(desk, "k ") + " " + desk.answer());
        Desk.same("from 0 on, no REF", "0 ", page(desk, "k") + " " + desk.answer());
        Desk.same("page 1", "1 1", page(desk, "kk") + " " + desk.answer());
        Desk.same("page 2", "2 a", page(desk, "K") + " " + desk.answer());
        desk.set("a\\label{z}");
        Desk.same("of the latest proof", "-1 0", page(desk, "k") + " " + page(desk, "z"));
        desk.set("a\\label{z}\n\n}");
        Desk.same("none behind a fault", -1, page(desk, "z"));
    }

    private static void tellTexts() {
        Desk.says("The TAPE is worked as a TEXT (each 10 being a blank)");
        Desk desk = new Desk();
        Desk.same("each 10", " a  b ", desk.told("\na\n\nb\n"));
        Desk.same("no blocks", "= a @x - b", desk.told("= a\n@x\n- b"));
        Desk.same("behind a \\", "a b", desk.told("a\\\nb"));
        Desk.same("in arguments", "A B", desk.told("\\up{a\nb}"));
        Desk.same("blanks stay", "  a  ", desk.told("  a  "));
        Desk.same("none", 0, desk.tell(""));
        Desk.same("an empty answer", 0, desk.room.count(19));
        Desk.says("marks are 6: how many signs, which are the ANSWER; -1 less the FAULT's kind, and the ANSWER stays.");
        Desk.same("how many", 3, desk.tell("abc"));
        String[] wrong = {"}", "\\zz", "\\up", "\\rep{}{}", "\\label{a}", "\\note{a}", "\\index{a}", Desk.times("{", 31) + Desk.times("}", 31),
            "\\rep{50}{\\rep{50}{" + Desk.times("x", 30) + "}}", "#1"};
        int[] due = {-3, -4, -5, -6, -7, -7, -7, -8, -9, -12};
        for (int i = 0; i < wrong.length; i++) {
            Desk.same(wrong[i], due[i] + " abc", desk.tell("x" + wrong[i]) + " " + desk.answer());
        }
        Desk.same("4,000 signs", 4000, desk.tell(Desk.times("x", 4000)));
        Desk.same("the last", -1, desk.room.answer(4000));
        Desk.same("more than a tape has", 10000, desk.tell("\\rep{50}{\\rep{50}{abcd}}"));
        Desk.same("they are the answer", 10000, desk.room.count(19));
    }

    private static void tellWhatIsKnown() {
        Desk.says("with the macros of the latest set() (as they are at its end, or FAULT), counters of its own, and what ref and page would give in a "
            + "round behind that of the PROOF (without one: ??)");
        Desk desk = new Desk();
        Desk.same("ahead of any", "!-4", desk.told("\\m"));
        desk.set("@def m 0 one\n\\m\n@def m 0 two");
        Desk.same("at its end", "two", desk.told("\\m"));
        desk.set("@def m 0 one\n}\n@def m 0 two");
        Desk.same("at its fault", "one", desk.told("\\m"));
        desk.set("}\n@def m 0 two");
        Desk.same("ahead of its directive", "!-4", desk.told("\\m"));
        desk.write("@def m 0 x");
        Desk.same("not of a manuscript that isn't set", "!-4", desk.told("\\m"));
        desk.set("\\step{a}{1}\\step{a}{1}");
        Desk.same("counters of its own", "0 1 1", desk.told("\\show{a}{1} \\step{a}{1} \\show{a}{1}"));
        Desk.same("each time", "0", desk.told("\\show{a}{1}"));
        Desk.same("without a proof", "?? ??", new Desk().told("\\ref{k} \\page{k}"));
        desk.set("@set first 4\n@set system 2\n= a\n@page\nb\\label{k}");
        Desk.same("of the proof", "1 v ??", desk.told("\\ref{k} \\page{k} \\ref{x}"));
        desk.write("@set first 9");
        Desk.same("though another is written", "1 v", desk.told("\\ref{k} \\page{k}"));
        desk.set("b\\label{k}\n\n}");
        Desk.same("a fault", "?? ??", desk.told("\\ref{k} \\page{k}"));
        Desk.same("60,000 of its own", -9, desk.tell("\\rep{50}{\\rep{50}{" + Desk.times("x", 24) + "}}"));
    }

    private static String hyphened(Desk desk, String word) {
        desk.feed(word);
        return desk.room.hyphens() + " " + desk.answer();
    }

    private static void hyphens() {
        Desk.says("The TAPE is 1 to 40 letters: the ANSWER is these with a - at each HYPHEN point, by the patterns, exceptions, left and right of the "
            + "latest set() (likewise; ahead of any: none, 2 and 2): how many points. NONE, and the ANSWER stays, if it isn't so.");
        Desk desk = new Desk();
        Desk.same("ahead of any", "0 abc", hyphened(desk, "abc"));
        Desk.same("one letter", "0 Z", hyphened(desk, "Z"));
        Desk.same("40 letters", "0 " + Desk.times("az", 20), hyphened(desk, Desk.times("az", 20)));
        desk.tell("old");
        for (String wrong : new String[] {"", "a b", " a", "a1", "a-b", "a\n", "a@", "a[", "a`", "{a", Desk.times("a", 41)}) {
            Desk.same("not so: " + wrong, "-1 old", hyphened(desk, wrong));
        }
        desk.set("@pat a1a\n@word aa-a-b");
        Desk.same("40 letters", "37 aa" + Desk.times("-a", 36) + "-aa", hyphened(desk, Desk.times("a", 40)));
        Desk.same("an exception", "2 AA-A-B", hyphened(desk, "AAAB"));
        desk.set("@pat a1a\n@set left 3\n@set right 4\n}\n@set left 1");
        Desk.same("left and right at the fault", "2 aaa-a-aaaa", hyphened(desk, "aaaaaaaa"));
        desk.set("@pat a1a\n@set left 3\n@set left 5");
        Desk.same("at the end", "2 aaaaa-a-aa", hyphened(desk, "aaaaaaaa"));
        desk.set("@set hyph 0\n@pat a1a");
        Desk.same("hyph doesn't matter", "1 aa-aa", hyphened(desk, "aaaa"));
        desk.set("");
        Desk.same("none again", "0 aaaa", hyphened(desk, "aaaa"));
        desk.set("}\n@pat a1a");
        Desk.same("behind the fault none", "0 aaaa", hyphened(desk, "aaaa"));
        desk.write("@pat a1a");
        Desk.same("not set, none", "0 aaaa", hyphened(desk, "aaaa"));
        int work = desk.room.count(14);
        hyphened(desk, "aaaa");
        Desk.same("no work", work, desk.room.count(14));
    }

    private static void answer() {
        Desk.says("Sign k of the ANSWER; NONE without one.");
        Desk desk = new Desk();
        desk.tell("a z");
        int[] places = {-1, 0, 1, 2, 3, Integer.MAX_VALUE, Integer.MIN_VALUE};
        int[] due = {-1, 97, 32, 122, -1, -1, -1};
        for (int i = 0; i < places.length; i++) {
            Desk.same("answer " + places[i], due[i], desk.room.answer(places[i]));
        }
        desk.tell("*_a\\ ");
        Desk.same("signs alone", "97 32", desk.room.answer(0) + " " + desk.room.answer(1));
    }

    private static String changes(Desk desk) {
        return desk.room.changed(0) + " " + desk.room.changed(1) + " " + desk.room.changed(2);
    }

    private static void keep() {
        Desk.says("The PROOF is KEPT, too, in place of the one that was: how many lines all its pages have. IllegalStateException: there is none.");
        Desk desk = new Desk();
        Desk.same("none", "state", thrown(() -> desk.room.keep()));
        desk.set(">a\n@page\n>b\n\n>c");
        Desk.same("all its pages", "4", thrown(() -> desk.room.keep()));
        Desk.same("the proof is there, too", 2, desk.room.pages());
        desk.set("}");
        Desk.same("none behind a fault", "state", thrown(() -> desk.room.keep()));
        desk.set(">a\n@page\n>b\n\n>c");
        Desk.same("what was kept stays", "0 0 -1", changes(desk));
        desk.set(">x");
        desk.room.keep();
        Desk.same("in its place", "0 0 -1", changes(desk));
        desk.set("");
        Desk.same("of no lines", "0", thrown(() -> desk.room.keep()));
        Desk.same("kept", "0 0 -1", changes(desk));
    }

    private static String changes(String kept, String proof) {
        Desk desk = new Desk();
        desk.set(kept);
        desk.room.keep();
        desk.set(proof);
        return changes(desk);
    }

    private static String raw(String letters) {
        StringBuilder text = new StringBuilder("@set high 60\n");
        for (int i = 0; i < letters.length(); i++) {
            text.append('>').append(letters.charAt(i)).append('\n');
        }
        return text.toString();
    }

    private static void changed() {
        Desk.says("what 0: how many of the PROOF's, 1: of the KEPT one's are beside the longest row that both have (its lines in the same order in both, "
            + "others between); 2: the first place (from 0 on) at which they aren't the same, or one has ended; NONE without one.");
        Desk.same("the same", "0 0 -1", changes(raw("abc"), raw("abc")));
        Desk.says("Of the lines of all pages, one behind the other, by their signs:");
        Desk.same("all pages", "1 0 2", changes(">a\n@page\n>b", ">a\n@page\n>b\n@page\n>c"));
        Desk.same("heads count", "2 0 0", changes(">a", "@set head 1\n>a"));
        Desk.same("notes count", "1 1 23", changes("a\\note{b}", "a\\note{c}"));
        Desk.says("are beside the longest row that both have (its lines in the same order in both, others between)");
        Desk.same("nothing and nothing", "0 0 -1", changes("", ""));
        Desk.same("one more at the end", "1 0 3", changes(raw("abc"), raw("abcd")));
        Desk.same("one more ahead", "1 0 0", changes(raw("abc"), raw("xabc")));
        Desk.same("one less within", "0 1 1", changes(raw("abc"), raw("ac")));
        Desk.same("the kept one has ended at once", "2 0 0", changes("", raw("ab")));
        Desk.same("the proof has ended at once", "0 2 0", changes(raw("ab"), ""));
        Desk.same("turned", "2 2 0", changes(raw("abc"), raw("cba")));
        Desk.same("others between", "3 2 0", changes(raw("axbyc"), raw("1a2b3c")));
        Desk.same("not the first that comes, the longest", "1 1 0", changes(raw("abcdef"), raw("bcdefa")));
        Desk.same("the same more than once", "0 1 1", changes(raw("abab"), raw("aab")));
        Desk.same("nothing in common", "2 3 0", changes(raw("abc"), raw("xy")));
        Desk.same("pages don't matter", "0 0 -1", changes(">a\n>b\n>c", ">a\n@page\n>b\n>c"));
        Desk.same("empty lines count", "1 0 1", changes(">a\n>b", ">a\n\n>b"));
        Desk.same("styles don't", "0 0 -1", changes("a b", "*a* _b"));
        Desk.same("blanks at an end do", "1 1 0", changes(">a", ">a "));
        Desk.same("origins don't", "0 0 -1", changes(">a", "\n\n>a"));
        Desk.same("the same lines, one less", "0 1 1", changes(raw("aa"), raw("a")));
        Desk.same("the same lines, one more", "1 0 1", changes(raw("a"), raw("aa")));
        Desk.same("the same lines, two more", "2 0 3", changes(raw("aaa"), raw("aaaaa")));
        Desk.same("both ends alike", "0 1 1", changes(raw("aba"), raw("aa")));
        Desk.same("by all signs", "2 2 0", changes(">Aa\n>BBAa", ">BB\n>AaBB"));
        Desk.same("as long, other signs", "1 1 0", changes(">ab", ">ba"));
        Desk.same("longer, the same beginning", "1 1 0", changes(">ab", ">abc"));
        Desk.same("many", "50 50 0", changes(raw(Desk.times("ab", 50)), raw(Desk.times("ca", 50))));
    }

    private static void changedWrong() {
        Desk.says("IllegalStateException: no PROOF, or none KEPT. IllegalArgumentException: another what.");
        Desk desk = new Desk();
        Desk.same("no proof, none kept", "state", thrown(() -> desk.room.changed(0)));
        desk.set("a");
        Desk.same("none kept", "state", thrown(() -> desk.room.changed(0)));
        desk.room.keep();
        for (int what : new int[] {-1, 3, 4, Integer.MAX_VALUE, Integer.MIN_VALUE}) {
            Desk.same("what " + what, "argument", thrown(() -> desk.room.changed(what)));
        }
        Desk.same("0, 1, 2", "0 0 -1", changes(desk));
        desk.set("}");
        Desk.same("no proof", "state", thrown(() -> desk.room.changed(0)));
    }

    private static void counts() {
        Desk.says("0 signs on the TAPE, 1 of the MANUSCRIPT, 2 its lines;");
        Desk desk = new Desk();
        desk.write("ab\nc");
        desk.feed("tape!");
        Desk.same("0, 1, 2", "5 4 2", desk.room.count(0) + " " + desk.room.count(1) + " " + desk.room.count(2));
        Desk.says("13 WORK of the latest set(), 14 WORK ever; 15 what back() can take back; of the latest set(): 16 macros, 17 patterns, 18 exceptions; "
            + "19 signs of the ANSWER. NONE for another what.");
        desk.room.tell();
        Desk.same("13, 14, 15", "0 5 1", desk.room.count(13) + " " + desk.room.count(14) + " " + desk.room.count(15));
        Desk.same("19", 5, desk.room.count(19));
        desk.set("@def a 0\n@def b 0\n@def a 1\n@pat a b c\n@word ab cd ef gh");
        Desk.same("16, 17, 18", "2 3 4", desk.room.count(16) + " " + desk.room.count(17) + " " + desk.room.count(18));
        int work = 5 + 5 * 15 + 30 + 40;
        Desk.same("13, 14", work + " " + (work + 5), desk.room.count(13) + " " + desk.room.count(14));
        desk.set("@def a 0\n@foo\n@def b 0");
        Desk.same("at a fault", "1 0 0 33", desk.room.count(16) + " " + desk.room.count(17) + " " + desk.room.count(18) + " " + desk.room.count(13));
        desk.write("@def a 0\n@def b 0");
        Desk.same("of the latest set", 1, desk.room.count(16));
        desk.set("a\\label{k}\n@def a 0\n@pat a");
        Desk.same("of one round", "1 1", desk.room.count(16) + " " + desk.room.count(17));
        for (int what : new int[] {-1, -2, 20, 21, 100, Integer.MAX_VALUE, Integer.MIN_VALUE}) {
            Desk.same("count " + what, -1, desk.room.count(what));
        }
    }

    private static void countsOfAProof() {
        Desk.says("of the PROOF (0 without): 3 pages, 4 notes, 5 headings, 6 KEYS of the index, 7 labels,");
        Desk desk = new Desk();
        String text = "= a\\label{x}\n== b\n=== c\nd\\note{e}\\note{f}\\note{g}\\note{h}\\index{i}\\index{I}\\index{i}\\index{j}\\index{k}\\index{l}\n@page\n"
            + "m\\label{y} \\ref{z}\\page{z}\\ref{x}";
        desk.set(text);
        int[] due = {2, 4, 3, 5, 2, 0, 2, 1, 2, 25};
        for (int i = 0; i < due.length; i++) {
            Desk.same("count " + (i + 3), due[i], desk.room.count(i + 3));
        }
        Desk.says("9 rounds, 10 whether it is SETTLED (1), 11 how many ?? its round gave, 12 lines of all pages;");
        desk.set("a\\ref{k}\\label{k}\\page{x}\n@page\n>b\n>c");
        Desk.same("9 to 12", "2 1 1 3", desk.room.count(9) + " " + desk.room.count(10) + " " + desk.room.count(11) + " " + desk.room.count(12));
        desk.set(text);
        desk.write("z");
        Desk.same("until the next set", 2, desk.room.count(3));
        desk.set(text + "}");
        for (int what = 3; what <= 12; what++) {
            Desk.same("without a proof: " + what, 0, desk.room.count(what));
        }
        desk.set("a");
        Desk.same("of another", "1 0 0 0 0 0 1 1 0 1", all(desk));
        desk.set("");
        Desk.same("of nothing", "0 0 0 0 0 0 1 1 0 0", all(desk));
    }

    private static String all(Desk desk) {
        StringBuilder out = new StringBuilder();
        for (int what = 3; what <= 12; what++) {
            out.append(desk.room.count(what)).append(' ');
        }
        return out.toString().trim();
    }

    private static void countsOfPutDashes() {
        Desk.says("8 its lines that end with a - that was put (notes' too)");
        String rules = "@set wide 12\n@set indent 0\n@pat b1c\n";
        Desk desk = new Desk();
        desk.set(rules + "aaaaaa bbbccc");
        Desk.same("one", 1, desk.room.count(8));
        desk.set(rules + "aaaaaa bbb-ccc");
        Desk.same("one that was there", 0, desk.room.count(8));
        desk.set(rules + "aaaaaa bbbccc\n\naaaaaa bbbccc aaaaaaaa bbbccc\n\n- aaaa bbbccc");
        Desk.same("several", 3, desk.room.count(8));
        desk.set(rules + "x\\note{aaaa bbbccc}");
        Desk.same("a note's", 1, desk.room.count(8));
        desk.set(rules + "@set fill 1\naaaa bbbbbbbcccccccc");
        Desk.same("by way 1", 1, desk.room.count(8));
        desk.set(rules + ">a-\n= aaaaaa bbbccc\n|bbbbbbbbbbbbccc");
        Desk.same("no others", 0, desk.room.count(8));
    }
}
