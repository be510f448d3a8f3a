/** Promises 10 to 15, 20 and 21: what reads a proof, what is kept, what has changed. */
public final class ProofTest {
    private interface Call {
        int go();
    }

    public static void main(String[] args) {
        noProof();
        beyond();
        proofStays();
        keep();
        changed();
        changedByTrial();
        changedWrong();
        Desk.close();
    }

    private static String thrown(Call call) {
        try {
            return "" + call.go();
        } catch (IllegalStateException state) {
            return "state";
        } catch (IndexOutOfBoundsException index) {
            return index.getClass() == IndexOutOfBoundsException.class ? "index" : "machine";
        } catch (IllegalArgumentException argument) {
            return "argument";
        }
    }

    private static void allState(Desk desk) {
        Desk.same("pages", "state", thrown(() -> desk.room.pages()));
        Desk.same("lines", "state", thrown(() -> desk.room.lines(9)));
        Desk.same("length", "state", thrown(() -> desk.room.length(0, 0)));
        Desk.same("sign", "state", thrown(() -> desk.room.sign(0, 0, 0)));
        Desk.same("style", "state", thrown(() -> desk.room.style(0, 0, -1)));
        Desk.same("origin", "state", thrown(() -> desk.room.origin(-1, 0)));
        Desk.same("keep", "state", thrown(() -> desk.room.keep()));
        Desk.same("changed", "state", thrown(() -> desk.room.changed(0)));
    }

    private static void noProof() {
        Desk desk = new Desk();
        allState(desk);
        desk.set("a");
        Desk.same("a proof", "1", thrown(() -> desk.room.pages()));
        desk.set("}");
        allState(desk);
        desk.set("");
        Desk.same("no page", "0", thrown(() -> desk.room.pages()));
        Desk.same("no such page", "index", thrown(() -> desk.room.lines(0)));
    }

    private static void beyond() {
        Desk desk = new Desk();
        desk.set("@set indent 0\nab\n\nc\n@page\n*d");
        for (int page : new int[] {-1, 2, Integer.MAX_VALUE, Integer.MIN_VALUE}) {
            Desk.same("lines of page " + page, "index", thrown(() -> desk.room.lines(page)));
            Desk.same("length", "index", thrown(() -> desk.room.length(page, 0)));
            Desk.same("sign", "index", thrown(() -> desk.room.sign(page, 0, 0)));
            Desk.same("style", "index", thrown(() -> desk.room.style(page, 0, 0)));
            Desk.same("origin", "index", thrown(() -> desk.room.origin(page, 0)));
        }
        for (int line : new int[] {-1, 3, Integer.MAX_VALUE, Integer.MIN_VALUE}) {
            Desk.same("length of line " + line, "index", thrown(() -> desk.room.length(0, line)));
            Desk.same("sign", "index", thrown(() -> desk.room.sign(0, line, 0)));
            Desk.same("style", "index", thrown(() -> desk.room.style(0, line, 0)));
            Desk.same("origin", "index", thrown(() -> desk.room.origin(0, line)));
        }
        for (int k : new int[] {-1, 2, Integer.MAX_VALUE, Integer.MIN_VALUE}) {
            Desk.same("sign " + k, "index", thrown(() -> desk.room.sign(0, 0, k)));
            Desk.same("style " + k, "index", thrown(() -> desk.room.style(0, 0, k)));
        }
        Desk.same("an empty line has none", "index", thrown(() -> desk.room.sign(0, 1, 0)));
        Desk.same("its length", 0, desk.room.length(0, 1));
        Desk.same("the last sign", 98, desk.room.sign(0, 0, 1));
        Desk.same("the other page", 100, desk.room.sign(1, 0, 0));
        Desk.same("its style", 1, desk.room.style(1, 0, 0));
        Desk.same("its origin", 6, desk.room.origin(1, 0));
        Desk.same("lines", "3 1", desk.room.lines(0) + " " + desk.room.lines(1));
    }

    private static void proofStays() {
        Desk desk = new Desk();
        desk.set("@set indent 0\none");
        desk.write("two");
        desk.feed("x");
        desk.room.add();
        desk.room.back();
        desk.tell("\\zz");
        Desk.same("until the next set", "one/=", desk.proof());
    }

    private static void keep() {
        Desk desk = new Desk();
        desk.set(">a\n>b\n@page\n>c");
        Desk.same("lines", 3, desk.room.keep());
        Desk.same("nothing has changed", "0 0 -1", changes(desk));
        desk.set("}");
        Desk.same("no proof", "state", thrown(() -> desk.room.changed(0)));
        desk.set(">b");
        Desk.same("kept over a fault", "0 2 0", changes(desk));
        Desk.same("in its place", 1, desk.room.keep());
        Desk.same("nothing has changed", "0 0 -1", changes(desk));
        desk.set("");
        Desk.same("against nothing", "0 1 0", changes(desk));
        Desk.same("nothing is kept", 0, desk.room.keep());
        Desk.same("nothing and nothing", "0 0 -1", changes(desk));
        desk.set(">x");
        Desk.same("against nothing kept", "1 0 0", changes(desk));
    }

    private static String changes(Desk desk) {
        return desk.room.changed(0) + " " + desk.room.changed(1) + " " + desk.room.changed(2);
    }

    private static String raw(String letters) {
        StringBuilder text = new StringBuilder("@set high 7\n");
        for (int i = 0; i < letters.length(); i++) {
            text.append('>').append(letters.charAt(i)).append('\n');
        }
        return text.toString();
    }

    private static String changes(String kept, String proof) {
        Desk desk = new Desk();
        desk.set(raw(kept));
        desk.room.keep();
        desk.set(raw(proof));
        return changes(desk);
    }

    private static void changed() {
        Desk.same("one more", "1 0 3", changes("abc", "abcd"));
        Desk.same("one less", "0 1 2", changes("abc", "ab"));
        Desk.same("another", "1 1 1", changes("abc", "axc"));
        Desk.same("moved", "1 1 0", changes("abcdefghijkl", "bcdefghijkla"));
        Desk.same("all", "3 2 0", changes("xy", "abc"));
        Desk.same("longest", "2 3 0", changes("abcbdab", "bdcaba"));
        Desk desk = new Desk();
        desk.set("@set indent 0\n*a* b");
        desk.room.keep();
        desk.set("@set indent 0\na\\ _b_");
        Desk.same("by their signs", "0 0 -1", changes(desk));
        desk.set("@set indent 0\na c");
        Desk.same("by their signs", "1 1 0", changes(desk));
    }

    private static void changedByTrial() {
        int seed = 7;
        for (int round = 0; round < 40; round++) {
            StringBuilder one = new StringBuilder();
            StringBuilder two = new StringBuilder();
            for (int i = 0; i < 24; i++) {
                seed = seed * 1103515245 + 12345;
                one.append((seed >>> 20) % 3 == 0 ? "" : "" + (char) ('a' + (seed >>> 16) % 4));
                two.append((seed >>> 24) % 3 == 0 ? "" : "" + (char) ('a' + (seed >>> 18) % 4));
            }
            int both = longest(one.toString(), two.toString());
            int first = 0;
            while (first < one.length() && first < two.length() && one.charAt(first) == two.charAt(first)) {
                first++;
            }
            boolean same = one.toString().equals(two.toString());
            Desk.same(one + " " + two, (two.length() - both) + " " + (one.length() - both) + " " + (same ? -1 : first),
                changes(one.toString(), two.toString()));
        }
    }

    private static int longest(String one, String two) {
        int[][] best = new int[one.length() + 1][two.length() + 1];
        for (int i = one.length() - 1; i >= 0; i--) {
            for (int j = two.length() - 1; j >= 0; j--) {
                best[i][j] = one.charAt(i) == two.charAt(j) ? best[i + 1][j + 1] + 1
                    : Math.max(best[i + 1][j], best[i][j + 1]);
            }
        }
        return best[0][0];
    }

    private static void changedWrong() {
        Desk desk = new Desk();
        Desk.same("no proof", "state", thrown(() -> desk.room.changed(9)));
        desk.set("a");
        Desk.same("none kept", "state", thrown(() -> desk.room.changed(0)));
        Desk.same("none kept, ahead of another what", "state", thrown(() -> desk.room.changed(3)));
        desk.room.keep();
        for (int what : new int[] {-1, 3, Integer.MAX_VALUE, Integer.MIN_VALUE}) {
            Desk.same("what " + what, "argument", thrown(() -> desk.room.changed(what)));
        }
    }
}
