/** Promises 1 to 8: the tape, the manuscript, and what is changed in it. */
public final class RoomTest {
    public static void main(String[] args) {
        newRoom();
        feed();
        write();
        add();
        replacePlain();
        replaceWays();
        replaceWrong();
        replaceLimits();
        back();
        find();
        letter();
        Desk.close();
    }

    private static void newRoom() {
        Desk desk = new Desk();
        for (int what = 0; what <= 19; what++) {
            Desk.same("new: count " + what, 0, desk.room.count(what));
        }
        Desk.same("new: answer", TypeRoom.NONE, desk.room.answer(0));
        Desk.same("new: letter", TypeRoom.NONE, desk.room.letter(0));
        Desk.same("new: back", false, desk.room.back());
        String thrown = "nothing";
        try {
            desk.room.pages();
        } catch (IllegalStateException none) {
            thrown = "state";
        }
        Desk.same("new: pages", "state", thrown);
    }

    private static void feed() {
        Desk desk = new Desk();
        Desk.same("a byte each, the highest first", 3, desk.room.feed(0x4100000000000042L, 0L, 0x43L));
        desk.room.write();
        Desk.same("order", "ABC", desk.manuscript());
        Desk.same("others are left out", 3, desk.room.feed(0x000920217E7FFF80L, -1L, 0x0D1F1B00L));
        desk.room.write();
        Desk.same("edges", " !~", desk.manuscript());
        Desk.same("10 is a sign", 1, desk.room.feed(10L, 0L, 0L));
        Desk.same("tape goes on", 2, desk.room.feed(0x2000000000000000L, 0L, 0L));
        desk.room.write();
        Desk.same("4,000 at most", 4000, desk.feed(Desk.times("x", 4010)));
        Desk.same("tape", 4000, desk.room.count(0));
        Desk.same("full", 4000, desk.feed("y"));
    }

    private static void write() {
        Desk desk = new Desk();
        Desk.same("no sign, no line", 0, desk.write(""));
        Desk.same("one without an end", 1, desk.write("a"));
        Desk.same("one with an end", 1, desk.write("a\n"));
        Desk.same("an empty one ahead", 2, desk.write("\na"));
        Desk.same("ends alone", 3, desk.write("\n\n\n"));
        Desk.same("blanks are signs", 2, desk.write("a\n "));
        Desk.same("tape is taken", 0, desk.room.count(0));
        Desk.same("lines", 2, desk.room.count(2));
        Desk.same("signs", 3, desk.room.count(1));
        Desk.same("text", "a\n ", desk.manuscript());
    }

    private static void add() {
        Desk desk = new Desk();
        desk.write("one");
        desk.feed(" two\nthree");
        Desk.same("add", 2, desk.room.add());
        Desk.same("added", "one two\nthree", desk.manuscript());
        Desk.same("work", 3, desk.room.count(14));
        desk.write(Desk.times("x", 3990));
        desk.feed("01234567890");
        Desk.same("4,001 signs", TypeRoom.NONE, desk.room.add());
        Desk.same("nothing comes", 3990, desk.room.count(1));
        Desk.same("tape is taken all the same", 0, desk.room.count(0));
        Desk.same("no work", 3, desk.room.count(14));
        desk.feed("0123456789");
        Desk.same("4,000 signs", 1, desk.room.add());
        Desk.same("work of what was there", 3993, desk.room.count(14));
        for (int i = 0; i < 99; i++) {
            desk.room.add();
        }
        Desk.same("all work is spent", 399993, desk.room.count(14));
        Desk.same("not so much work", -4, desk.room.add());
        Desk.same("isn't spent", 399993, desk.room.count(14));
        desk.write("1234567");
        desk.feed("8");
        Desk.same("just so much", 1, desk.room.add());
        Desk.same("at the limit", 400000, desk.room.count(14));
        Desk.same("none left", -4, desk.room.add());
        desk.write("");
        desk.feed("z");
        Desk.same("none is wanted", 1, desk.room.add());
    }

    private static String replaced(String text, String tape, int ways) {
        Desk desk = new Desk();
        desk.write(text);
        desk.feed(tape);
        int times = desk.room.replace(ways);
        return times + ":" + desk.manuscript();
    }

    private static void replacePlain() {
        Desk.same("each time", "2:lead pots and lead", replaced("ink pots and ink", "ink\nlead", 0));
        Desk.same("behind what was found", "2:bba", replaced("aaaaa", "aa\nb", 0));
        Desk.same("nothing in its place", "3:bnn", replaced("banana", "a\n", 0));
        Desk.same("ends in NEW", "1:a\n\nb", replaced("a-b", "-\n\n\n", 0));
        Desk.same("none", "0:abc", replaced("abc", "x\ny", 0));
        Desk.same("not over an end", "0:a\nb", replaced("a\nb", "ab\nx", 0));
        Desk.same("what came isn't looked at", "2:aaaa", replaced("aa", "a\naa", 0));
        Desk.same("empty manuscript", "0:", replaced("", "a\nb", 0));
    }

    private static void replaceWays() {
        Desk.same("1 whole", "2:pen ink9 xink (pen)", replaced("ink ink9 xink (ink)", "ink\npen", 1));
        Desk.same("1 as it was", "1:aa a", replaced("aa a", "a\na", 1));
        Desk.same("2 alike", "3:x x x", replaced("ink INK iNk", "Ink\nx", 2));
        Desk.same("case counts", "1:ink x", replaced("ink Ink", "Ink\nx", 0));
        Desk.same("4 first great", "1:Pen", replaced("Ink", "Ink\npen", 4));
        Desk.same("4 all great", "1:PEN-Z9", replaced("INK", "INK\npen-z9", 4));
        Desk.same("4 one letter is not two", "1:Pen", replaced("I", "I\npen", 4));
        Desk.same("4 signs aside", "1:PEN", replaced("-I-K", "-I-K\npen", 4));
        Desk.same("4 small stays", "1:pen", replaced("iNK", "iNK\npen", 4));
        Desk.same("4 first only of a letter", "1:.pen", replaced("Ink", "Ink\n.pen", 4));
        Desk.same("6", "3:pen Pen PEN", replaced("ink Ink INK", "ink\npen", 6));
        Desk.same("7", "2:pen inky PEN", replaced("ink inky INK", "ink\npen", 7));
        Desk.same("3 at both ends", "2:x,x", replaced("Ink,iNK", "ink\nx", 3));
    }

    private static void replaceWrong() {
        Desk.same("no 10", "-2:abc", replaced("abc", "a", 0));
        Desk.same("no OLD", "-2:abc", replaced("abc", "\nx", 0));
        Desk.same("empty tape", "-2:abc", replaced("abc", "", 0));
        Desk.same("61 signs", "-2:abc", replaced("abc", Desk.times("a", 61) + "\nx", 0));
        Desk.same("60 signs", "1:x", replaced(Desk.times("a", 60), Desk.times("a", 60) + "\nx", 0));
        for (int ways : new int[] {-1, 8, Integer.MAX_VALUE, Integer.MIN_VALUE}) {
            Desk desk = new Desk();
            desk.write("abc");
            desk.feed("a\nb");
            String thrown = "nothing";
            try {
                desk.room.replace(ways);
            } catch (IllegalArgumentException wrong) {
                thrown = "argument";
            }
            Desk.same("ways " + ways, "argument", thrown);
            Desk.same("nothing changes", "abc", desk.manuscript());
            Desk.same("but the tape", 0, desk.room.count(0));
            Desk.same("no work", 0, desk.room.count(14));
        }
    }

    private static void replaceLimits() {
        Desk desk = new Desk();
        desk.write(Desk.times("a", 100));
        desk.feed("a\n" + Desk.times("b", 40));
        Desk.same("4,000 signs", 100, desk.room.replace(0));
        Desk.same("work", 100 + 100 * 50, desk.room.count(14));
        desk.feed("b\nbb");
        Desk.same("4,001", -3, desk.room.replace(0));
        Desk.same("nothing changes", 4000, desk.room.count(1));
        Desk.same("work is spent", 5100 + 4000 + 2001 * 12, desk.room.count(14));
        desk.write("ab" + Desk.times("c", 3998));
        desk.feed("a\nxy");
        int before = desk.room.count(14);
        Desk.same("at the end", -3, desk.room.replace(0));
        Desk.same("found once", before + 4000 + 12, desk.room.count(14));
        desk.write(Desk.times("a", 4000));
        while (desk.room.count(14) < 360000) {
            desk.feed("x\ny");
            desk.room.replace(0);
        }
        int left = 400000 - desk.room.count(14);
        desk.feed("a\nb");
        Desk.same("work ends in the middle", -4, desk.room.replace(0));
        Desk.same("what was spent is spent", left - (left - 4000) % 11, left - (400000 - desk.room.count(14)));
        Desk.same("nothing changes", 97, desk.room.letter(0));
        Desk.same("-4 at once", -4, replaceOnce(desk));
    }

    private static int replaceOnce(Desk desk) {
        desk.feed("a\nb");
        return desk.room.replace(0);
    }

    private static void back() {
        Desk desk = new Desk();
        desk.write("one");
        desk.feed(" two");
        desk.room.add();
        desk.feed("two\nthree");
        desk.room.replace(0);
        desk.feed("none\nx");
        desk.room.replace(0);
        Desk.same("a replace of none isn't done", 3, desk.room.count(15));
        desk.feed(Desk.times("x", 3999));
        desk.room.add();
        Desk.same("an add of none isn't done", 3, desk.room.count(15));
        Desk.same("back", true, desk.room.back());
        Desk.same("replace", "one two", desk.manuscript());
        Desk.same("back", true, desk.room.back());
        Desk.same("add", "one", desk.manuscript());
        Desk.same("back", true, desk.room.back());
        Desk.same("write", "", desk.manuscript());
        Desk.same("no more", false, desk.room.back());
        for (int i = 0; i < 9; i++) {
            desk.write("text " + i);
        }
        Desk.same("six", 6, desk.room.count(15));
        for (int i = 7; i >= 2; i--) {
            Desk.same("back " + i, true, desk.room.back());
            Desk.same("text " + i, "text " + i, desk.manuscript());
        }
        Desk.same("not the seventh", false, desk.room.back());
        Desk.same("stays", "text 2", desk.manuscript());
        desk.write("a");
        desk.write("b");
        desk.room.back();
        desk.write("c");
        Desk.same("back behind a back", true, desk.room.back());
        Desk.same("a", "a", desk.manuscript());
    }

    private static int found(Desk desk, String text, int from) {
        desk.feed(text);
        int place = desk.room.find(from);
        Desk.same("find takes the tape", 0, desk.room.count(0));
        return place;
    }

    private static void find() {
        Desk desk = new Desk();
        desk.write("an ink\nand an ink");
        Desk.same("first", 3, found(desk, "ink", 0));
        Desk.same("just there", 3, found(desk, "ink", 3));
        Desk.same("next", 14, found(desk, "ink", 4));
        Desk.same("over an end", 5, found(desk, "k\na", 0));
        Desk.same("none", -1, found(desk, "ink", 15));
        Desk.same("case counts", -1, found(desk, "Ink", 0));
        Desk.same("empty", -1, found(desk, "", 0));
        Desk.same("behind the last", -1, found(desk, "k", 17));
        Desk.same("last", 16, found(desk, "k", 16));
        Desk.same("beyond", -1, found(desk, "k", 18));
        Desk.same("below", -1, found(desk, "a", -1));
        Desk.same("far", -1, found(desk, "a", Integer.MAX_VALUE));
        Desk.same("far below", -1, found(desk, "a", Integer.MIN_VALUE));
        Desk.same("longer", -1, found(desk, Desk.times("an ink", 9), 0));
    }

    private static void letter() {
        Desk desk = new Desk();
        desk.write("a\n");
        Desk.same("0", 97, desk.room.letter(0));
        Desk.same("1", 10, desk.room.letter(1));
        Desk.same("2", -1, desk.room.letter(2));
        Desk.same("-1", -1, desk.room.letter(-1));
        Desk.same("far", -1, desk.room.letter(Integer.MAX_VALUE));
        Desk.same("far below", -1, desk.room.letter(Integer.MIN_VALUE));
    }
}
