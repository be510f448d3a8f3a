/** Long runs of calls with any arguments: nothing is thrown but what the document names. */
public final class NoThrowTest {
    private static final String[] PIECES = {"ink ", "press ", "well-known ", "a", "\n", "\n\n", " ", "{", "}", "\\", "#1",
        "#", "*", "_", "|", "|a|b\n", "\n|<|^|>\n", ">raw\n", "- item\n", "# item\n", "  # deep\n", "    - deeper\n",
        "= Head\n", "== Head two\n", "=== three\n", "@toc\n", "@index\n", "@page\n", "@set wide 12\n", "@set high 5\n",
        "@set head 1\n", "@set fill 1\n", "@set justify 3\n", "@set keep 3\n", "@set gap 0\n", "@set system 2\n",
        "@set first 999\n", "@def m 2 <#2#1>\n", "@def r 1 \\if{#1}{0}{}{\\r{\\add{#1}{-1}}}\n", "@pat a1b 1na .in2k\n",
        "@word press-es in-k\n", "\\m{a}{b}", "\\r{3}", "\\up{ab}", "\\rep{50}{abc }", "\\rep{50}{\\rep{50}{x y }}",
        "\\sub{1}{2}{abc}", "\\note{a note}", "\\label{k}", "\\label{m}", "\\index{Ink}", "\\index{ink pot}", "\\ref{k}",
        "\\page{m}", "\\step{c}{4}", "\\show{c}{2}", "\\num{1999}{3}", "\\mul{9999}{-9999}", "\\word{1}{a b}",
        "\\ ", "\\at{}{}", "hyphenation ", "aaaaaaaaaaaaaaaaaaaaaaaaaaaaaaaaaaaaaaaaaaaaaaaaaaaa "};
    private static final int[] EDGES = {0, 1, 2, -1, 3, 5, 7, 12, 40, 4000, Integer.MAX_VALUE, Integer.MIN_VALUE};
    private static int seed = 42;

    public static void main(String[] args) {
        int proofs = 0;
        for (int run = 0; run < 250; run++) {
            Desk desk = new Desk();
            for (int i = 0; i < 120; i++) {
                String thrown = call(desk);
                if (!thrown.isEmpty()) {
                    Desk.same("run " + run + " call " + i, "nothing", thrown);
                }
                proofs += desk.room.count(10) + desk.room.count(3) > 0 ? 1 : 0;
            }
        }
        Desk.same("there were proofs", true, proofs > 1000);
        Desk.close();
    }

    private static int random(int below) {
        seed = seed * 1103515245 + 12345;
        return (seed >>> 8) % below;
    }

    private static int edge() {
        return EDGES[random(EDGES.length)];
    }

    private static String text(int pieces, boolean clean) {
        StringBuilder out = new StringBuilder();
        for (int i = 0; i < pieces; i++) {
            String piece = PIECES[random(PIECES.length)];
            boolean broken = piece.length() <= 2 && "{}\\#1".contains(piece.trim()) && !piece.isBlank();
            if (!clean || !broken) {
                out.append(clean && piece.length() > 1 && "@=|>-#".indexOf(piece.charAt(0)) >= 0 ? "\n" + piece : piece);
            }
        }
        return out.toString();
    }

    private static String call(Desk desk) {
        TypeRoom room = desk.room;
        try {
            switch (random(24)) {
                case 0: room.feed(random(1 << 23) * 0x123456789L, seed, -seed); break;
                case 1: case 2: case 3: desk.write(text(random(30), true)); room.set(); break;
                case 4: desk.write(text(random(12), false)); room.set(); break;
                case 5: desk.feed(text(random(4), false)); room.add(); break;
                case 6: desk.feed(text(1, true) + "\n" + text(random(3), true)); room.replace(random(8)); break;
                case 7: desk.feed("a\nb"); room.replace(edge()); break;
                case 8: room.back(); break;
                case 9: desk.feed(text(1, true)); room.find(edge()); break;
                case 10: room.letter(edge()); break;
                case 11: room.set(); break;
                case 12: room.pages(); break;
                case 13: room.lines(edge()); break;
                case 14: room.length(edge(), edge()); break;
                case 15: room.sign(edge(), edge(), edge()); break;
                case 16: room.style(edge(), edge(), edge()); break;
                case 17: room.origin(edge(), edge()); break;
                case 18: desk.feed("k"); room.labelled(); break;
                case 19: desk.tell(text(random(6), random(2) == 0)); break;
                case 20: desk.feed("hyphenation"); room.hyphens(); break;
                case 21: room.answer(edge()); break;
                case 22: room.keep(); break;
                default: room.changed(edge());
            }
        } catch (IllegalStateException | IllegalArgumentException | IndexOutOfBoundsException named) {
            Class<?> type = named.getClass();
            boolean own = type == IllegalStateException.class || type == IllegalArgumentException.class
                || type == IndexOutOfBoundsException.class;
            return own ? "" : type.getName();
        } catch (RuntimeException machine) {
            return machine.toString();
        }
        return "";
    }
}
