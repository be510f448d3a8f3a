/** Part 7: rounds, references, what settles; promises 16 and 22. */
public final class RoundsTest {
    public static void main(String[] args) {
        settled();
        references();
        unsettled();
        labelled();
        counts();
        countersAnew();
        Desk.close();
    }

    private static String rounds(Desk desk) {
        return desk.room.count(9) + " " + desk.room.count(10);
    }

    private static void settled() {
        Desk desk = new Desk();
        desk.set("");
        Desk.same("nothing", "1 1", rounds(desk));
        desk.set("a \\ref{x}");
        Desk.same("no marks", "1 1", rounds(desk));
        Desk.same("unknown", 1, desk.room.count(11));
        desk.set("a\\label{x}");
        Desk.same("a label", "2 1", rounds(desk));
        desk.set("= a");
        Desk.same("a heading", "2 1", rounds(desk));
        desk.set("a\\index{x}");
        Desk.same("an index mark", "2 1", rounds(desk));
        desk.set("@set high 5\n@set gap 0\n@toc\n" + Desk.times("= a\n", 3));
        Desk.same("contents that move headings", "3 1", rounds(desk));
        desk.set("}");
        Desk.same("none", "0 0", rounds(desk));
    }

    private static void references() {
        Desk desk = new Desk();
        desk.set("@set indent 0\n@set wide 60\n@set gap 0\n\\ref{a} \\ref{b} \\ref{c} \\ref{d} \\page{d} \\ref{z}\n\n"
            + "x\\label{a}\n= h\\label{b}\n# i\n# j\n  # k\\label{c}\n- l\n@set system 3\n@set first 4\n@page\ny\\label{d}");
        Desk.same("the latest ahead", "1 a a V ??", desk.line(0, 0));
        Desk.same("unknown of the last round", 1, desk.room.count(11));
        Desk.same("labels", 4, desk.room.count(7));
        desk.set("@set indent 0\nx\\label{a}\n== h\n=== i\n# j\\label{b}\n\n\\ref{a}<\\ref{b}> \\up{\\ref{q}\\page{q}}");
        Desk.same("nothing ahead", "<1> ????", desk.line(0, desk.room.lines(0) - 1));
        Desk.same("two unknown", 2, desk.room.count(11));
        desk.set("@set indent 0\n*\\ref{a} \\page{a}*\n\nx\\label{a}");
        Desk.same("style at hand", "1", desk.styles(0, 0));
    }

    private static void unsettled() {
        Desk desk = new Desk();
        Desk.same("set", 0, desk.set("= \\if{\\ref{a}}{1}{x}{xx}y\\label{a}\n"));
        Desk.same("a title that changes once", "3 1", rounds(desk));
        Desk.same("line", "1 xy", desk.line(0, 0));
        // The page that a label is told to be on decides where it stands.
        Desk.same("set", 0, desk.set("@set high 5\n\\if{\\page{a}}{1}{\\rep{50}{long words }}{x}\n\nx\\label{a}"));
        Desk.same("never settles", "5 0", rounds(desk));
    }

    private static int page(Desk desk, String key) {
        desk.feed(key);
        int page = desk.room.labelled();
        Desk.same("the tape is taken", 0, desk.room.count(0));
        return page;
    }

    private static void labelled() {
        Desk desk = new Desk();
        desk.tell("stays");
        Desk.same("no proof", -1, page(desk, "a"));
        Desk.same("stays", "stays", desk.answer());
        desk.set("= h\n== i\\label{a}\n@page\n# x\n# y\\label{b}\n@page\nz\\label{Bc9}");
        Desk.same("a", 0, page(desk, "a"));
        Desk.same("its ref", "1.1", desk.answer());
        Desk.same("b", 1, page(desk, "b"));
        Desk.same("its ref", "2", desk.answer());
        Desk.same("c", 2, page(desk, "Bc9"));
        Desk.same("its ref", "2", desk.answer());
        Desk.same("no such", -1, page(desk, "B"));
        Desk.same("no such", -1, page(desk, "bc9"));
        Desk.same("no such", -1, page(desk, "a\n"));
        Desk.same("empty", -1, page(desk, ""));
        Desk.same("stays", 1, desk.room.count(19));
        desk.set("x\\label{a}");
        Desk.same("a", 0, page(desk, "a"));
        Desk.same("no ref", 0, desk.room.count(19));
        desk.write("other");
        Desk.same("the proof stays", 0, page(desk, "a"));
        desk.set("x\\label{a}}");
        Desk.same("a fault", -1, page(desk, "a"));
    }

    private static void counts() {
        Desk desk = new Desk();
        desk.feed("tape");
        Desk.same("tape", 4, desk.room.count(0));
        desk.room.write();
        desk.set("@def a 0 x\n@pat a1b b1c\n@word a-b\n= h\n\nword\\note{n}\\label{l} " + Desk.times("a", 28) + "bbbbb\n\n"
            + "\\index{k}k\\index{k}\\index{K} \\ref{none}\\page{none}");
        int[] due = {0, 0, 8, 1, 1, 1, 2, 1, 1, 2, 1, 2, 24};
        due[1] = desk.manuscript().length();
        for (int what = 0; what < due.length; what++) {
            Desk.same("count " + what, due[what], desk.room.count(what));
        }
        Desk.same("macros", 1, desk.room.count(16));
        Desk.same("patterns", 2, desk.room.count(17));
        Desk.same("exceptions", 1, desk.room.count(18));
        Desk.same("back", 2, desk.room.count(15));
        desk.set("@pat c1d\n@foo");
        for (int what = 3; what <= 12; what++) {
            Desk.same("no proof: count " + what, 0, desk.room.count(what));
        }
        Desk.same("patterns at the fault", 1, desk.room.count(17));
        Desk.same("macros at the fault", 0, desk.room.count(16));
        for (int what : new int[] {-1, 20, 21, Integer.MAX_VALUE, Integer.MIN_VALUE}) {
            Desk.same("count " + what, TypeRoom.NONE, desk.room.count(what));
        }
    }

    private static void countersAnew() {
        Desk desk = new Desk();
        desk.set("@set indent 0\n= \\step{a}{1}\n\n\\show{a}{1} \\step{b}{1}");
        Desk.same("0 as a round begins", "1 1", desk.line(0, 0));
        Desk.same("show", "1 1", desk.line(0, 2));
        Desk.same("two rounds", 2, desk.room.count(9));
    }
}
