/**
 * A room for hand-set type: a manuscript of signs is worked, filled into lines
 * and set out into pages, round by round until all numbers have settled.
 *
 * <p>A sign inside this class is a code: the sign itself in the low seven bits,
 * its style in the two above, and a bit for a hard blank.
 */
public final class TypeRoom {
    public static final int NONE = -1;

    private static final int END = 10;
    private static final int BLANK = 32;
    private static final int SIGN_BITS = 127;
    private static final int STYLE_SHIFT = 7;
    private static final int STYLE_BITS = 3 << STYLE_SHIFT;
    private static final int BOLD = 1;
    private static final int SLANTED = 2;
    private static final int HARD = 512;
    private static final int ALL_BITS = 1023;

    private static final int MOST_SIGNS = 4000;
    private static final int MOST_BACK = 6;
    private static final int MOST_OLD = 60;
    private static final int MOST_ROUNDS = 5;
    private static final int MOST_LETTERS = 40;

    private static final int NO_OLD = -2;
    private static final int TOO_LONG = -3;
    private static final int NO_WORK = -4;

    private static final int FAULT_DIRECTIVE = 1;
    private static final int FAULT_CLOSING = 2;
    private static final int FAULT_CALL = 3;
    private static final int FAULT_MISSING = 4;
    private static final int FAULT_WANTED = 5;
    private static final int FAULT_MARK = 6;
    private static final int FAULT_DEPTH = 7;
    private static final int FAULT_WORK = 8;
    private static final int FAULT_MANY = 9;
    private static final int FAULT_TWICE = 10;
    private static final int FAULT_HASH = 11;

    private final Row tape;
    private final Row manuscript;
    private final Row answer;
    private final Row passage;
    private final Row[] former;
    private int formerCount;
    private int formerTop;
    private final Purse purse;
    private final Rules rules;
    private final Texts texts;
    private final Filler filler;
    private final Setter setter;
    private final Proof proof;
    private final Proof kept;
    private int setWork;

    public TypeRoom() {
        tape = new Row();
        manuscript = new Row();
        answer = new Row();
        passage = new Row();
        former = new Row[MOST_BACK];
        for (int i = 0; i < MOST_BACK; i++) {
            former[i] = new Row();
        }
        purse = new Purse();
        rules = new Rules(purse);
        Marks marks = new Marks();
        texts = new Texts(purse, rules, marks);
        filler = new Filler(rules);
        setter = new Setter(manuscript, purse, rules, texts, filler, marks);
        proof = new Proof();
        kept = new Proof();
    }

    public int feed(long a, long b, long c) {
        feedBytes(a);
        feedBytes(b);
        feedBytes(c);
        return tape.size;
    }

    public int write() {
        remember();
        manuscript.copy(tape);
        tape.clear();
        return lineCount();
    }

    public int add() {
        if (manuscript.size + tape.size > MOST_SIGNS) {
            tape.clear();
            return NONE;
        }
        if (!purse.pay(manuscript.size)) {
            tape.clear();
            return NO_WORK;
        }
        remember();
        manuscript.pour(tape, 0, tape.size);
        tape.clear();
        return lineCount();
    }

    public int replace(int ways) throws IllegalArgumentException {
        if (ways < 0 || ways > 7) {
            tape.clear();
            throw new IllegalArgumentException();
        }
        int times = putInPlace(ways);
        tape.clear();
        if (times > 0) {
            remember();
            manuscript.copy(passage);
        }
        return times;
    }

    public boolean back() {
        if (formerCount == 0) {
            return false;
        }
        formerTop = (formerTop + MOST_BACK - 1) % MOST_BACK;
        formerCount--;
        manuscript.copy(former[formerTop]);
        return true;
    }

    public int find(int from) {
        int place = NONE;
        if (tape.size > 0 && from >= 0 && from <= manuscript.size) {
            for (int at = from; at + tape.size <= manuscript.size && place == NONE; at++) {
                if (manuscript.stands(at, tape, 0, tape.size)) {
                    place = at;
                }
            }
        }
        tape.clear();
        return place;
    }

    public int letter(int k) {
        return manuscript.get(k);
    }

    public int set() {
        purse.open();
        proof.forget();
        setter.open();
        int fault = 0;
        try {
            for (int round = 1; round <= MOST_ROUNDS && !setter.settled; round++) {
                setter.round(round);
            }
        } catch (IllegalStateException stop) {
            fault = purse.kind + 16 * setter.line;
        }
        setWork = purse.here;
        if (fault != 0) {
            setter.forget();
            return fault;
        }
        setter.show(proof);
        return 0;
    }

    public int pages() throws IllegalStateException {
        needProof();
        return proof.pageStarts.size;
    }

    public int lines(int page) throws IllegalStateException, IndexOutOfBoundsException {
        needPage(page);
        return proof.linesOf(page);
    }

    public int length(int page, int line) throws IllegalStateException, IndexOutOfBoundsException {
        return proof.lengthOf(needLine(page, line));
    }

    public int sign(int page, int line, int k) throws IllegalStateException, IndexOutOfBoundsException {
        return needSign(page, line, k) & SIGN_BITS;
    }

    public int style(int page, int line, int k) throws IllegalStateException, IndexOutOfBoundsException {
        return (needSign(page, line, k) & STYLE_BITS) >> STYLE_SHIFT;
    }

    public int origin(int page, int line) throws IllegalStateException, IndexOutOfBoundsException {
        return proof.origins.get(needLine(page, line));
    }

    public int labelled() {
        Marks marks = setter.now;
        int label = proof.present ? marks.labels.seek(tape, 0, tape.size) : NONE;
        tape.clear();
        if (label == NONE) {
            return NONE;
        }
        answer.clear();
        answer.pour(marks.refs.signs, marks.refs.from(label), marks.refs.to(label));
        return marks.labelAt.get(label);
    }

    public int tell() {
        passage.clear();
        for (int i = 0; i < tape.size; i++) {
            passage.put(tape.get(i) == END ? BLANK : tape.get(i));
        }
        tape.clear();
        purse.open();
        int told = 0;
        try {
            texts.workAlone(passage, setter.now);
        } catch (IllegalStateException stop) {
            told = -1 - purse.kind;
        }
        if (told < 0) {
            return told;
        }
        answer.clear();
        answer.pourMasked(texts.arena, 0, texts.arena.size, SIGN_BITS);
        return answer.size;
    }

    public int hyphens() {
        boolean good = tape.size >= 1 && tape.size <= MOST_LETTERS;
        for (int i = 0; i < tape.size && good; i++) {
            good = isLetter(tape.get(i));
        }
        if (!good) {
            tape.clear();
            return NONE;
        }
        filler.partLetters(tape, 0, tape.size);
        answer.clear();
        for (int i = 0; i < tape.size; i++) {
            if (filler.parts(i)) {
                answer.put('-');
            }
            answer.put(tape.get(i));
        }
        int points = answer.size - tape.size;
        tape.clear();
        return points;
    }

    public int answer(int k) {
        return answer.get(k);
    }

    public int keep() throws IllegalStateException {
        needProof();
        kept.copy(proof);
        return kept.lineCount();
    }

    public int changed(int what) throws IllegalStateException, IllegalArgumentException {
        needProof();
        needKept();
        switch (what) {
            case 0:
                return proof.lineCount() - proof.common(kept);
            case 1:
                return kept.lineCount() - proof.common(kept);
            case 2:
                return proof.firstChange(kept);
            default:
                throw new IllegalArgumentException();
        }
    }

    public int count(int what) {
        if (what >= 3 && what <= 12) {
            return proof.present ? proof.tally(what) : 0;
        }
        switch (what) {
            case 0:
                return tape.size;
            case 1:
                return manuscript.size;
            case 2:
                return lineCount();
            case 13:
                return setWork;
            case 14:
                return purse.ever;
            case 15:
                return formerCount;
            case 16:
                return rules.names.rows();
            case 17:
                return rules.patterns.rows();
            case 18:
                return rules.exceptions.rows();
            case 19:
                return answer.size;
            default:
                return NONE;
        }
    }

    private void feedBytes(long bytes) {
        for (int shift = 56; shift >= 0; shift -= 8) {
            int sign = (int) (bytes >>> shift) & 255;
            if ((sign == END || sign >= BLANK && sign <= 126) && tape.size < MOST_SIGNS) {
                tape.put(sign);
            }
        }
    }

    private int lineCount() {
        int lines = 0;
        for (int i = 0; i < manuscript.size; i++) {
            if (manuscript.get(i) == END || i + 1 == manuscript.size) {
                lines++;
            }
        }
        return lines;
    }

    private void remember() {
        former[formerTop].copy(manuscript);
        formerTop = (formerTop + 1) % MOST_BACK;
        formerCount = Math.min(MOST_BACK, formerCount + 1);
    }

    /** Makes in passage what the manuscript becomes; the answer of replace(). */
    private int putInPlace(int ways) {
        int old = 0;
        while (old < tape.size && tape.get(old) != END) {
            old++;
        }
        if (old == tape.size || old < 1 || old > MOST_OLD) {
            return NO_OLD;
        }
        if (!purse.pay(manuscript.size)) {
            return NO_WORK;
        }
        passage.clear();
        int times = 0;
        int skip = 0;
        for (int at = 0; at < manuscript.size; at++) {
            if (skip > 0) {
                skip--;
            } else if (standsAt(at, old, ways)) {
                if (!purse.pay(10 + tape.size - old - 1)) {
                    return NO_WORK;
                }
                putNew(at, old, ways);
                times++;
                skip = old - 1;
                if (passage.size > MOST_SIGNS) {
                    return TOO_LONG;
                }
            } else {
                passage.put(manuscript.get(at));
            }
        }
        return passage.size > MOST_SIGNS ? TOO_LONG : times;
    }

    private boolean standsAt(int at, int old, int ways) {
        if (at + old > manuscript.size) {
            return false;
        }
        for (int i = 0; i < old; i++) {
            int there = manuscript.get(at + i);
            int wanted = tape.get(i);
            if (there != wanted && ((ways & 2) == 0 || small(there) != small(wanted))) {
                return false;
            }
        }
        return (ways & 1) == 0 || !isWordSign(manuscript.get(at - 1)) && !isWordSign(manuscript.get(at + old));
    }

    private void putNew(int at, int old, int ways) {
        int letters = 0;
        int greats = 0;
        for (int i = at; i < at + old; i++) {
            letters += isLetter(manuscript.get(i)) ? 1 : 0;
            greats += isGreat(manuscript.get(i)) ? 1 : 0;
        }
        boolean all = (ways & 4) != 0 && letters >= 2 && greats == letters;
        boolean first = (ways & 4) != 0 && isGreat(manuscript.get(at));
        for (int i = old + 1; i < tape.size; i++) {
            int sign = tape.get(i);
            passage.put(all || first && i == old + 1 ? great(sign) : sign);
        }
    }

    private void needProof() {
        if (!proof.present) {
            throw new IllegalStateException();
        }
    }

    private void needKept() {
        if (!kept.present) {
            throw new IllegalStateException();
        }
    }

    private void needPage(int page) {
        needProof();
        if (page < 0 || page >= proof.pageStarts.size) {
            throw new IndexOutOfBoundsException();
        }
    }

    private int needLine(int page, int line) {
        needPage(page);
        if (line < 0 || line >= proof.linesOf(page)) {
            throw new IndexOutOfBoundsException();
        }
        return proof.pageStarts.get(page) + line;
    }

    private int needSign(int page, int line, int k) {
        int shown = needLine(page, line);
        if (k < 0 || k >= proof.lengthOf(shown)) {
            throw new IndexOutOfBoundsException();
        }
        return proof.shown.signs.get(proof.shown.from(shown) + k);
    }

    private static boolean isSmall(int sign) {
        return sign >= 'a' && sign <= 'z';
    }

    private static boolean isGreat(int sign) {
        return sign >= 'A' && sign <= 'Z';
    }

    private static boolean isLetter(int sign) {
        return sign >= 'a' && sign <= 'z' || sign >= 'A' && sign <= 'Z';
    }

    private static boolean isDigit(int sign) {
        return sign >= '0' && sign <= '9';
    }

    private static boolean isWordSign(int sign) {
        return sign >= 'a' && sign <= 'z' || sign >= 'A' && sign <= 'Z' || sign >= '0' && sign <= '9';
    }

    private static int great(int sign) {
        return sign >= 'a' && sign <= 'z' ? sign - 32 : sign;
    }

    private static int small(int sign) {
        return sign >= 'A' && sign <= 'Z' ? sign + 32 : sign;
    }

    /** A row of numbers that grows. A place outside it reads as NONE, so that no index can fail. */
    private static final class Row {
        // WORK keeps every row far below this.
        private static final int MOST_CELLS = 131072;
        private static final int[] ROMAN_VALUES = {1000, 900, 500, 400, 100, 90, 50, 40, 10, 9, 5, 4, 1};
        private static final String ROMAN_SIGNS = "mcmdcdcxclxlxixvivi";

        private int[] cells;
        private int size;

        Row() {
            cells = new int[16];
        }

        int get(int place) {
            return place >= 0 && place < size ? cells[place] : NONE;
        }

        void put(int value) {
            if (size >= MOST_CELLS) {
                return;
            }
            if (size >= cells.length) {
                int[] wider = new int[cells.length * 2];
                System.arraycopy(cells, 0, wider, 0, cells.length);
                cells = wider;
            }
            cells[size] = value;
            size++;
        }

        void alter(int place, int value) {
            if (place >= 0 && place < size) {
                cells[place] = value;
            }
        }

        void cut(int length) {
            if (length >= 0 && length < size) {
                size = length;
            }
        }

        void clear() {
            size = 0;
        }

        void copy(Row other) {
            clear();
            pour(other, 0, other.size);
        }

        void pour(Row other, int from, int to) {
            for (int i = from; i < to; i++) {
                put(other.get(i));
            }
        }

        void pourMasked(Row other, int from, int to, int bits) {
            for (int i = from; i < to; i++) {
                put(other.get(i) & bits);
            }
        }

        void putMany(int value, int times) {
            for (int i = 0; i < times; i++) {
                put(value);
            }
        }

        void remove(int from, int to) {
            if (from < 0 || to < from || to > size) {
                return;
            }
            System.arraycopy(cells, to, cells, from, size - to);
            size -= to - from;
        }

        /** Pours the words alone, with one plain blank between. */
        void pack(Row other, int from, int to, int bits) {
            int start = size;
            boolean gap = false;
            for (int i = from; i < to; i++) {
                int code = other.get(i);
                boolean blank = (code & (HARD | SIGN_BITS)) == BLANK;
                if (gap && !blank && size > start) {
                    put(BLANK);
                }
                if (!blank) {
                    put(code & bits);
                }
                gap = blank;
            }
        }

        boolean like(Row other) {
            if (size != other.size) {
                return false;
            }
            for (int i = 0; i < size; i++) {
                if (get(i) != other.get(i)) {
                    return false;
                }
            }
            return true;
        }

        /** Whether the signs of a part of another row stand here at a place, styles aside. */
        boolean stands(int at, Row other, int from, int to) {
            for (int i = from; i < to; i++) {
                if ((get(at + i - from) & SIGN_BITS) != (other.get(i) & SIGN_BITS)) {
                    return false;
                }
            }
            return true;
        }

        void putNumber(int value, int system) {
            if (system == 2 && value >= 1 && value <= 3999) {
                putRoman(value, 0);
            } else if (system == 3 && value >= 1 && value <= 3999) {
                putRoman(value, 32);
            } else if (system == 4 && value >= 1) {
                putLettered(value);
            } else {
                putDigits(value, system == 5 ? 36 : 10);
            }
        }

        private void putRoman(int value, int down) {
            int left = value;
            for (int k = 0; k < ROMAN_VALUES.length; k++) {
                // Singles and pairs of signs stand in turn: three places for two values.
                int at = k / 2 * 3 + k % 2;
                int behind = k % 2 == 0 ? at + 1 : at + 2;
                for (int turn = 0; turn < 3 && left >= ROMAN_VALUES[k]; turn++) {
                    left -= ROMAN_VALUES[k];
                    for (int i = at; i < behind && i < ROMAN_SIGNS.length(); i++) {
                        put(ROMAN_SIGNS.charAt(i) - down);
                    }
                }
            }
        }

        private void putLettered(int value) {
            long span = 26;
            long rest = value - 1L;
            for (int turn = 0; turn < 7 && rest >= span; turn++) {
                rest -= span;
                span *= 26;
            }
            for (long power = span / 26; power > 0; power /= 26) {
                put('a' + (int) (rest / power % 26));
            }
        }

        private void putDigits(int value, int base) {
            long left = value;
            if (left < 0) {
                put('-');
                left = -left;
            }
            long power = 1;
            for (int turn = 0; turn < 10 && left / power >= base; turn++) {
                power *= base;
            }
            for (; power > 0; power /= base) {
                int digit = (int) (left / power % base);
                put(digit < 10 ? '0' + digit : 'a' + digit - 10);
            }
        }
    }

    /** Rows of signs, one behind the other in one row. */
    private static final class Shelf {
        private final Row signs;
        private final Row ends;

        Shelf() {
            signs = new Row();
            ends = new Row();
        }

        void clear() {
            signs.clear();
            ends.clear();
        }

        void close() {
            ends.put(signs.size);
        }

        int rows() {
            return ends.size;
        }

        int from(int k) {
            return k >= 1 && k <= ends.size ? ends.cells[k - 1] : 0;
        }

        int to(int k) {
            return k >= 0 && k < ends.size ? ends.cells[k] : 0;
        }

        void copy(Shelf other) {
            signs.copy(other.signs);
            ends.copy(other.ends);
        }

        boolean like(Shelf other) {
            return ends.like(other.ends) && signs.like(other.signs);
        }

        /** Which of the rows has just these signs, or NONE. */
        int seek(Row row, int from, int to) {
            for (int k = 0; k < ends.size; k++) {
                if (to(k) - from(k) == to - from && signs.stands(from(k), row, from, to)) {
                    return k;
                }
            }
            return NONE;
        }
    }

    /** WORK that is spent, and the kind of the FAULT that was met. */
    private static final class Purse {
        private static final int MOST_HERE = 60000;
        private static final int MOST_EVER = 400000;

        private int here;
        private int ever;
        private int kind;

        void open() {
            here = 0;
            kind = 0;
        }

        boolean pay(int work) {
            if (work > MOST_EVER - ever) {
                return false;
            }
            ever += work;
            return true;
        }

        void spend(int work) {
            if (work > MOST_HERE - here || work > MOST_EVER - ever) {
                kind = FAULT_WORK;
                throw new IllegalStateException();
            }
            here += work;
            ever += work;
        }

        void fail(int fault) {
            kind = fault;
            throw new IllegalStateException();
        }
    }

    /** What directives have told: settings, macros, patterns, exceptions. */
    private static final class Rules {
        private static final int WIDE = 0;
        private static final int INDENT = 1;
        private static final int JUSTIFY = 2;
        private static final int HYPH = 3;
        private static final int LEFT = 4;
        private static final int RIGHT = 5;
        private static final int FILL = 6;
        private static final int KEEP = 7;
        private static final int GAP = 8;
        private static final int HIGH = 9;
        private static final int HEAD = 10;
        private static final int FIRST = 11;
        private static final int SYSTEM = 12;
        private static final int SETTINGS = 13;
        private static final String SETTING_NAMES =
            "wide indent justify hyph left right fill keep gap high head first system ";
        private static final int[] LEAST = {12, 0, 0, 0, 1, 1, 0, 0, 0, 5, 0, 1, 1};
        private static final int[] MOST = {80, 8, 3, 1, 9, 9, 1, 3, 3, 60, 1, 999, 5};
        private static final int[] AT_FIRST = {40, 2, 3, 1, 2, 2, 0, 2, 1, 24, 0, 1, 1};

        private static final int MOST_MACROS = 40;
        private static final int MOST_PATTERNS = 120;
        private static final int MOST_EXCEPTIONS = 60;
        private static final int WORD_WORK = 10;

        private static final int TOLD = 0;
        private static final int TOC = 1;
        private static final int INDEX = 2;
        private static final int PAGE = 3;

        private final Purse purse;
        private final int[] settings;
        private final Shelf names;
        private final Row arities;
        private final Row bodyOf;
        private final Shelf bodies;
        private final Shelf patterns;
        private final Shelf exceptions;

        Rules(Purse purse) {
            this.purse = purse;
            settings = new int[SETTINGS];
            System.arraycopy(AT_FIRST, 0, settings, 0, SETTINGS);
            names = new Shelf();
            arities = new Row();
            bodyOf = new Row();
            bodies = new Shelf();
            patterns = new Shelf();
            exceptions = new Shelf();
        }

        void clear() {
            System.arraycopy(AT_FIRST, 0, settings, 0, SETTINGS);
            names.clear();
            arities.clear();
            bodyOf.clear();
            bodies.clear();
            patterns.clear();
            exceptions.clear();
        }

        int told(int setting) {
            return setting >= 0 && setting < SETTINGS ? settings[setting] : 0;
        }

        /** Which of the names, each with a blank behind it, stands in a part of a row. */
        static int nameIndex(String all, Row row, int from, int to) {
            int index = 0;
            int start = 0;
            boolean same = true;
            for (int i = 0; i < all.length(); i++) {
                int sign = all.charAt(i);
                if (sign == BLANK) {
                    if (same && i - start == to - from) {
                        return index;
                    }
                    index++;
                    start = i + 1;
                    same = true;
                } else if (from + i - start >= to || row.get(from + i - start) != sign) {
                    same = false;
                }
            }
            return NONE;
        }

        /** Follows a directive, and answers which kind it is of. */
        int follow(Row row, int from, int to) {
            int wordEnd = from;
            while (wordEnd < to && row.get(wordEnd) != BLANK) {
                wordEnd++;
            }
            int word = nameIndex("@def @set @pat @word @toc @index @page ", row, from, wordEnd);
            boolean alone = word >= 4;
            if (word == NONE || alone != (wordEnd == to)) {
                purse.fail(FAULT_DIRECTIVE);
            }
            switch (word) {
                case 0:
                    define(row, wordEnd + 1, to);
                    return TOLD;
                case 1:
                    change(row, wordEnd + 1, to);
                    return TOLD;
                case 2:
                    takeWords(row, wordEnd + 1, to, true);
                    return TOLD;
                case 3:
                    takeWords(row, wordEnd + 1, to, false);
                    return TOLD;
                case 4:
                    return TOC;
                case 5:
                    return INDEX;
                default:
                    return PAGE;
            }
        }

        private void define(Row row, int from, int to) {
            int nameEnd = from;
            while (nameEnd < to && isLetter(row.get(nameEnd))) {
                nameEnd++;
            }
            int digit = nameEnd + 1;
            boolean good = nameEnd - from >= 1 && nameEnd - from <= 12
                && nameIndex(Texts.CALL_NAMES, row, from, nameEnd) == NONE
                && digit < to && row.get(nameEnd) == BLANK && isDigit(row.get(digit))
                && (digit + 1 == to || row.get(digit + 1) == BLANK);
            if (!good) {
                purse.fail(FAULT_DIRECTIVE);
            }
            int known = names.seek(row, from, nameEnd);
            if (known == NONE) {
                if (names.rows() >= MOST_MACROS) {
                    purse.fail(FAULT_MANY);
                }
                known = names.rows();
                names.signs.pour(row, from, nameEnd);
                names.close();
                arities.put(0);
                bodyOf.put(0);
            }
            arities.alter(known, row.get(digit) - '0');
            bodyOf.alter(known, bodies.rows());
            bodies.signs.pour(row, digit + 2, to);
            bodies.close();
        }

        private void change(Row row, int from, int to) {
            int wordEnd = from;
            while (wordEnd < to && row.get(wordEnd) != BLANK) {
                wordEnd++;
            }
            int setting = nameIndex(SETTING_NAMES, row, from, wordEnd);
            int digits = to - wordEnd - 1;
            boolean good = setting >= 0 && setting < SETTINGS && digits >= 1 && digits <= 3;
            int value = 0;
            for (int i = wordEnd + 1; i < to && good; i++) {
                good = isDigit(row.get(i));
                value = value * 10 + row.get(i) - '0';
            }
            if (!good || value < LEAST[setting] || value > MOST[setting]) {
                purse.fail(FAULT_DIRECTIVE);
                return;
            }
            settings[setting] = value;
        }

        private void takeWords(Row row, int from, int to, boolean pattern) {
            int start = from;
            for (int i = from; i <= to; i++) {
                if (i == to || row.get(i) == BLANK) {
                    if (pattern ? !isPattern(row, start, i) : !isException(row, start, i)) {
                        purse.fail(FAULT_DIRECTIVE);
                    }
                    start = i + 1;
                }
            }
            Shelf shelf = pattern ? patterns : exceptions;
            int most = pattern ? MOST_PATTERNS : MOST_EXCEPTIONS;
            start = from;
            for (int i = from; i <= to; i++) {
                if (i == to || row.get(i) == BLANK) {
                    if (shelf.rows() >= most) {
                        purse.fail(FAULT_MANY);
                    }
                    purse.spend(WORD_WORK);
                    shelf.signs.pour(row, start, i);
                    shelf.close();
                    start = i + 1;
                }
            }
        }

        private static boolean isPattern(Row row, int from, int to) {
            boolean lettered = false;
            for (int i = from; i < to; i++) {
                int sign = row.get(i);
                lettered = lettered || isSmall(sign);
                if (!isSmall(sign) && !isDigit(sign) && sign != '.') {
                    return false;
                }
                if (i > from && isDigit(sign) && isDigit(row.get(i - 1))) {
                    return false;
                }
            }
            return lettered && to - from <= 16;
        }

        private static boolean isException(Row row, int from, int to) {
            for (int i = from; i < to; i++) {
                boolean dash = row.get(i) == '-';
                if (!dash && !isSmall(row.get(i))) {
                    return false;
                }
                if (dash && (i == from || i + 1 == to || row.get(i - 1) == '-')) {
                    return false;
                }
            }
            return to - from >= 2 && to - from <= 24;
        }
    }

    /** What a round tells the next one: labels, headings, index marks, and their pages. */
    private static final class Marks {
        private final Shelf labels;
        private final Shelf refs;
        private final Row labelAt;
        private final Shelf titles;
        private final Row levels;
        private final Row headAt;
        private final Row headLines;
        private final Shelf keys;
        private final Row keyAt;
        private final Row pages;
        private final Row entry;
        private final Row latest;
        private int notes;
        private int unknown;
        private int first;
        private int system;

        Marks() {
            labels = new Shelf();
            refs = new Shelf();
            labelAt = new Row();
            titles = new Shelf();
            levels = new Row();
            headAt = new Row();
            headLines = new Row();
            keys = new Shelf();
            keyAt = new Row();
            pages = new Row();
            entry = new Row();
            latest = new Row();
        }

        void clear() {
            labels.clear();
            refs.clear();
            labelAt.clear();
            titles.clear();
            levels.clear();
            headAt.clear();
            headLines.clear();
            keys.clear();
            keyAt.clear();
            latest.clear();
            notes = 0;
            unknown = 0;
        }

        boolean like(Marks other) {
            return labels.like(other.labels) && refs.like(other.refs) && labelAt.like(other.labelAt)
                && titles.like(other.titles) && levels.like(other.levels) && headAt.like(other.headAt)
                && keys.like(other.keys) && keyAt.like(other.keyAt);
        }

        void putLabel(Row out, int page) {
            out.putNumber(first + page, system);
        }

        /** The index marks whose keys are the first of their like, in the index's order. */
        void order(Row out) {
            out.clear();
            for (int key = 0; key < keys.rows(); key++) {
                int place = 0;
                while (place < out.size && compareKeys(out.get(place), key) < 0) {
                    place++;
                }
                if (place == out.size || compareKeys(out.get(place), key) != 0) {
                    out.put(key);
                    for (int i = out.size - 1; i > place; i--) {
                        out.alter(i, out.get(i - 1));
                    }
                    out.alter(place, key);
                }
            }
        }

        int compareKeys(int one, int two) {
            int from = keys.from(one);
            int other = keys.from(two);
            int size = keys.to(one) - from;
            int otherSize = keys.to(two) - other;
            int plain = 0;
            for (int i = 0; i < size && i < otherSize; i++) {
                int a = keys.signs.get(from + i);
                int b = keys.signs.get(other + i);
                if (small(a) != small(b)) {
                    return small(a) - small(b);
                }
                plain = plain != 0 ? plain : a - b;
            }
            return size != otherSize ? size - otherSize : plain;
        }

        /** The words of a key's entry: the key with the labels of its pages, each once, rising. */
        void putEntry(int key, Row out) {
            pages.clear();
            for (int i = 0; i < keys.rows(); i++) {
                int page = keyAt.get(i);
                if ((pages.size == 0 || pages.get(pages.size - 1) != page) && compareKeys(i, key) == 0) {
                    pages.put(page);
                }
            }
            entry.clear();
            entry.pour(keys.signs, keys.from(key), keys.to(key));
            int next = 0;
            for (int i = 0; i < pages.size; i = next) {
                next = i + 1;
                while (next < pages.size && pages.get(next) == pages.get(next - 1) + 1) {
                    next++;
                }
                // Two pages are told one by one, three and more as a stretch.
                next = next - i >= 3 ? next : i + 1;
                entry.put(',');
                entry.put(BLANK);
                entry.putNumber(first + pages.get(i), system);
                if (next > i + 1) {
                    entry.put('-');
                    entry.putNumber(first + pages.get(next - 1), system);
                }
            }
            // A key may have blanks anywhere that were hard ones; only the whole entry has its words.
            out.pack(entry, 0, entry.size, SIGN_BITS);
        }
    }

    /** Part 2: texts are worked, and signs come to rows. */
    private static final class Texts {
        private static final String CALL_NAMES =
            "up low cap rot rev rep sub word len at add mul num step show if note label index ref page ";
        private static final int[] ARITIES = {1, 1, 1, 2, 1, 2, 3, 2, 1, 2, 2, 2, 2, 2, 2, 4, 1, 1, 1, 1, 1};
        private static final int UP = 0;
        private static final int LOW = 1;
        private static final int CAP = 2;
        private static final int ROT = 3;
        private static final int REV = 4;
        private static final int REP = 5;
        private static final int SUB = 6;
        private static final int WORD = 7;
        private static final int LEN = 8;
        private static final int AT = 9;
        private static final int ADD = 10;
        private static final int MUL = 11;
        private static final int NUM = 12;
        private static final int STEP = 13;
        private static final int SHOW = 14;
        private static final int IF = 15;
        private static final int NOTE = 16;
        private static final int LABEL = 17;
        private static final int INDEX = 18;
        private static final int REF = 19;

        private static final int NO_MARKS = 0;
        private static final int BUT_NOTES = 1;
        private static final int ALL_MARKS = 2;

        private static final int MOST_DEPTH = 30;
        private static final int MOST_NUMBER = 9999;
        private static final int MOST_KEY = 12;
        private static final int SYSTEMS = 5;
        private static final int MOST_NOTES = 60;
        private static final int MOST_LABELS = 60;
        private static final int MOST_KEYS = 100;
        private static final int MOST_COUNTERS = 20;
        private static final int CALL_WORK = 20;
        private static final int INSIDE_WORK = 5;

        private final Purse purse;
        private final Rules rules;
        private Marks now;
        private Marks before;
        private final Row row;
        private final Row arena;
        private final Row spans;
        private final Row held;
        private final Row scratch;
        private final Shelf counters;
        private final Row values;
        private final Shelf notes;
        private final Row carriers;
        private int allowed;
        private int style;
        private int inArguments;
        private int frame;
        private int frameArity;
        private boolean gap;

        Texts(Purse purse, Rules rules, Marks marks) {
            this.purse = purse;
            this.rules = rules;
            now = marks;
            before = marks;
            row = new Row();
            arena = new Row();
            spans = new Row();
            held = new Row();
            scratch = new Row();
            counters = new Shelf();
            values = new Row();
            notes = new Shelf();
            carriers = new Row();
        }

        void openRound(Marks fresh, Marks former) {
            now = fresh;
            before = former;
            counters.clear();
            values.clear();
        }

        void openText(int marksAllowed) {
            allowed = marksAllowed;
            row.clear();
            arena.clear();
            spans.clear();
            held.clear();
            notes.clear();
            carriers.clear();
            style = 0;
            inArguments = 0;
            frame = 0;
            frameArity = 0;
            gap = false;
        }

        /** Signs that are in the row from the beginning, as a word of their own. */
        void beginWith(Row signs) {
            row.pour(signs, 0, signs.size);
            gap = true;
        }

        /** A text of its own, whose signs stay in the arena with all their blanks. */
        void workAlone(Row source, Marks known) {
            openRound(known, known);
            openText(NO_MARKS);
            inArguments = 1;
            work(source, 0, source.size, 0);
        }

        void work(Row source, int from, int to, int depth) {
            int at = from;
            for (int turns = to - from; turns > 0 && at < to; turns--) {
                int sign = source.get(at);
                if (sign == '\\') {
                    at = escape(source, at + 1, to, depth);
                } else if (sign == '{') {
                    int close = closing(source, at, to);
                    inside(source, at + 1, close, depth);
                    at = close + 1;
                } else if (sign == '}') {
                    purse.fail(FAULT_CLOSING);
                } else if (sign == '#') {
                    putArgument(at + 1 < to ? source.get(at + 1) : NONE);
                    at += 2;
                } else {
                    if (sign == '*') {
                        style ^= BOLD;
                    } else if (sign == '_') {
                        style ^= SLANTED;
                    } else {
                        put(sign | style << STYLE_SHIFT);
                    }
                    at++;
                }
            }
        }

        private int escape(Row source, int at, int to, int depth) {
            if (at >= to) {
                purse.fail(FAULT_CLOSING);
            }
            int sign = source.get(at);
            if (isLetter(sign)) {
                return call(source, at, to, depth);
            }
            put((sign == BLANK ? sign | HARD : sign) | style << STYLE_SHIFT);
            return at + 1;
        }

        /** Works what stands within braces or in a body; the style behind it is as ahead of it. */
        private void inside(Row source, int from, int to, int depth) {
            if (depth >= MOST_DEPTH) {
                purse.fail(FAULT_DEPTH);
            }
            purse.spend(INSIDE_WORK);
            int styleAhead = style;
            work(source, from, to, depth + 1);
            style = styleAhead;
        }

        private int call(Row source, int from, int to, int depth) {
            int nameEnd = from;
            while (nameEnd < to && isLetter(source.get(nameEnd))) {
                nameEnd++;
            }
            purse.spend(CALL_WORK);
            int macro = rules.names.seek(source, from, nameEnd);
            int kind = macro != NONE ? NONE : Rules.nameIndex(CALL_NAMES, source, from, nameEnd);
            int arity = arityOf(macro, kind);
            int spanBase = spans.size;
            int heldBase = held.size;
            int bottom = arena.size;
            int end = findArguments(source, nameEnd, to, arity);
            int worked = kind == IF ? 2 : arity;
            for (int k = 0; k < worked; k++) {
                int start = arena.size;
                inArguments++;
                inside(source, spans.get(spanBase + 2 * k), spans.get(spanBase + 2 * k + 1), depth);
                inArguments--;
                held.put(start);
                held.put(arena.size);
            }
            int top = arena.size;
            if (macro != NONE) {
                workBody(macro, heldBase, depth);
            } else if (kind == IF) {
                int chosen = spanBase + (sameArguments(heldBase) ? 4 : 6);
                inside(source, spans.get(chosen), spans.get(chosen + 1), depth);
            } else if (kind <= WORD) {
                reshape(kind, heldBase);
            } else if (kind <= NUM) {
                reckon(kind, heldBase);
            } else if (kind <= SHOW) {
                tellCounter(kind, heldBase);
            } else if (kind == NOTE) {
                note(heldBase);
            } else if (kind == LABEL) {
                label(heldBase);
            } else if (kind == INDEX) {
                index(heldBase);
            } else {
                refer(kind, heldBase);
            }
            if (inArguments > 0) {
                arena.remove(bottom, top);
            } else {
                arena.cut(bottom);
            }
            spans.cut(spanBase);
            held.cut(heldBase);
            return end;
        }

        private void workBody(int macro, int heldBase, int depth) {
            int frameAhead = frame;
            int arityAhead = frameArity;
            frame = heldBase;
            frameArity = rules.arities.get(macro);
            int body = rules.bodyOf.get(macro);
            inside(rules.bodies.signs, rules.bodies.from(body), rules.bodies.to(body), depth);
            frame = frameAhead;
            frameArity = arityAhead;
        }

        private int arityOf(int macro, int kind) {
            if (macro != NONE) {
                return rules.arities.get(macro);
            }
            if (kind < 0 || kind >= ARITIES.length) {
                purse.fail(FAULT_CALL);
                return 0;
            }
            boolean mark = kind == NOTE || kind == LABEL || kind == INDEX;
            if (mark && (inArguments > 0 || allowed < (kind == NOTE ? ALL_MARKS : BUT_NOTES))) {
                purse.fail(FAULT_MARK);
            }
            return ARITIES[kind];
        }

        private int findArguments(Row source, int from, int to, int arity) {
            int at = from;
            for (int k = 0; k < arity; k++) {
                if (at >= to || source.get(at) != '{') {
                    purse.fail(FAULT_MISSING);
                }
                int close = closing(source, at, to);
                spans.put(at + 1);
                spans.put(close);
                at = close + 1;
            }
            return at;
        }

        /** The place of the brace that closes the one at a place. */
        private int closing(Row source, int from, int to) {
            int open = 0;
            for (int i = from; i < to; i++) {
                int sign = source.get(i);
                if (sign == '\\') {
                    i++;
                } else if (sign == '{') {
                    open++;
                } else if (sign == '}') {
                    open--;
                    if (open == 0) {
                        return i;
                    }
                }
            }
            purse.fail(FAULT_CLOSING);
            return to;
        }

        private void putArgument(int sign) {
            int k = sign - '1';
            if (!isDigit(sign) || k < 0 || k >= frameArity) {
                purse.fail(FAULT_HASH);
            }
            putPart(held.get(frame + 2 * k), held.get(frame + 2 * k + 1));
        }

        /** A sign comes to the row at hand; the block's own row keeps words alone. */
        private void put(int code) {
            purse.spend(1);
            if (inArguments > 0) {
                arena.put(code);
            } else if ((code & (HARD | SIGN_BITS)) == BLANK) {
                gap = true;
            } else {
                if (gap && row.size > 0) {
                    row.put(BLANK);
                }
                gap = false;
                row.put(code);
            }
        }

        private void putPart(int from, int to) {
            for (int i = from; i < to; i++) {
                put(arena.get(i));
            }
        }

        /** What stands in scratch comes to the row, in the style at hand. */
        private void putScratch() {
            for (int i = 0; i < scratch.size; i++) {
                put(scratch.get(i) | style << STYLE_SHIFT);
            }
        }

        private void reshape(int kind, int base) {
            int last = base + 2 * (kind == SUB ? 2 : kind == ROT || kind == REP || kind == WORD ? 1 : 0);
            int from = held.get(last);
            int to = held.get(last + 1);
            switch (kind) {
                case REV:
                    for (int i = to - 1; i >= from; i--) {
                        put(arena.get(i));
                    }
                    break;
                case REP:
                    int times = number(base, 0, 50);
                    for (int k = 0; k < times; k++) {
                        putPart(from, to);
                    }
                    break;
                case SUB:
                    int skip = number(base, 0, MOST_NUMBER);
                    int many = number(base + 2, 0, MOST_NUMBER);
                    putPart(from + skip, Math.min(to, from + skip + many));
                    break;
                case WORD:
                    putNthWord(number(base, -MOST_NUMBER, MOST_NUMBER), from, to);
                    break;
                default:
                    int turn = kind == ROT ? number(base, -MOST_NUMBER, MOST_NUMBER) : 0;
                    for (int i = from; i < to; i++) {
                        int ahead = i > from ? arena.get(i - 1) & SIGN_BITS : NONE;
                        put(recast(kind, arena.get(i), turn, ahead));
                    }
            }
        }

        private static int recast(int kind, int code, int turn, int ahead) {
            int sign = code & SIGN_BITS;
            int other = sign;
            if (kind == UP || kind == CAP && !isLetter(ahead)) {
                other = great(sign);
            } else if (kind == LOW) {
                other = small(sign);
            } else if (kind == ROT && isLetter(sign)) {
                int alphabet = isSmall(sign) ? 'a' : 'A';
                other = alphabet + Math.floorMod(sign - alphabet + turn, 26);
            }
            return code - sign + other;
        }

        private void putNthWord(int wanted, int from, int to) {
            int word = NONE;
            boolean within = false;
            for (int i = from; i < to; i++) {
                boolean blank = (arena.get(i) & (HARD | SIGN_BITS)) == BLANK;
                if (!blank && !within) {
                    word++;
                }
                within = !blank;
                if (within && word == wanted) {
                    put(arena.get(i));
                }
            }
        }

        private void reckon(int kind, int base) {
            int value;
            int system = 1;
            switch (kind) {
                case LEN:
                    value = held.get(base + 1) - held.get(base);
                    break;
                case AT:
                    value = placeOf(base);
                    break;
                case ADD:
                    value = number(base, -MOST_NUMBER, MOST_NUMBER) + number(base + 2, -MOST_NUMBER, MOST_NUMBER);
                    break;
                case MUL:
                    value = number(base, -MOST_NUMBER, MOST_NUMBER) * number(base + 2, -MOST_NUMBER, MOST_NUMBER);
                    break;
                default:
                    value = number(base, -MOST_NUMBER, MOST_NUMBER);
                    system = number(base + 2, 1, SYSTEMS);
            }
            scratch.clear();
            scratch.putNumber(value, system);
            putScratch();
        }

        private int placeOf(int base) {
            int size = held.get(base + 1) - held.get(base);
            int from = held.get(base + 2);
            int to = held.get(base + 3);
            for (int at = from; at + size <= to; at++) {
                if (arena.stands(at, arena, held.get(base), held.get(base + 1))) {
                    return at - from;
                }
            }
            return NONE;
        }

        private void tellCounter(int kind, int base) {
            needKey(base);
            int system = number(base + 2, 1, SYSTEMS);
            int known = counters.seek(arena, held.get(base), held.get(base + 1));
            if (known == NONE && kind == STEP) {
                if (counters.rows() >= MOST_COUNTERS) {
                    purse.fail(FAULT_MANY);
                }
                known = counters.rows();
                counters.signs.pour(arena, held.get(base), held.get(base + 1));
                counters.close();
                values.put(0);
            }
            if (kind == STEP) {
                values.alter(known, values.get(known) + 1);
            }
            scratch.clear();
            scratch.putNumber(known == NONE ? 0 : values.get(known), system);
            putScratch();
        }

        private boolean sameArguments(int base) {
            int from = held.get(base);
            int to = held.get(base + 1);
            int other = held.get(base + 2);
            return to - from == held.get(base + 3) - other && arena.stands(other, arena, from, to);
        }

        private int number(int at, int least, int most) {
            int from = held.get(at);
            int to = held.get(at + 1);
            boolean below = from < to && (arena.get(from) & SIGN_BITS) == '-';
            int start = below ? from + 1 : from;
            boolean good = to - start >= 1 && to - start <= 4;
            int value = 0;
            for (int i = start; i < to && good; i++) {
                int sign = arena.get(i) & SIGN_BITS;
                good = isDigit(sign);
                value = value * 10 + sign - '0';
            }
            value = below ? -value : value;
            if (!good || value < least || value > most) {
                purse.fail(FAULT_WANTED);
            }
            return value;
        }

        private void needKey(int at) {
            int from = held.get(at);
            int to = held.get(at + 1);
            boolean good = to - from >= 1 && to - from <= MOST_KEY;
            for (int i = from; i < to && good; i++) {
                good = isWordSign(arena.get(i) & SIGN_BITS);
            }
            if (!good) {
                purse.fail(FAULT_WANTED);
            }
        }

        private void note(int base) {
            if (now.notes >= MOST_NOTES) {
                purse.fail(FAULT_MANY);
            }
            now.notes++;
            notes.signs.pack(arena, held.get(base), held.get(base + 1), ALL_BITS);
            notes.close();
            scratch.clear();
            scratch.put('[');
            scratch.putNumber(now.notes, 1);
            scratch.put(']');
            putScratch();
            carriers.put(row.size - 1);
        }

        private void label(int base) {
            needKey(base);
            int from = held.get(base);
            int to = held.get(base + 1);
            if (now.labels.seek(arena, from, to) != NONE) {
                purse.fail(FAULT_TWICE);
            }
            if (now.labels.rows() >= MOST_LABELS) {
                purse.fail(FAULT_MANY);
            }
            now.labels.signs.pourMasked(arena, from, to, SIGN_BITS);
            now.labels.close();
            now.refs.signs.pour(now.latest, 0, now.latest.size);
            now.refs.close();
            now.labelAt.put(lastSolid());
        }

        private void index(int base) {
            int size = now.keys.signs.size;
            now.keys.signs.pack(arena, held.get(base), held.get(base + 1), SIGN_BITS);
            if (now.keys.signs.size == size) {
                purse.fail(FAULT_WANTED);
            }
            if (now.keys.rows() >= MOST_KEYS) {
                purse.fail(FAULT_MANY);
            }
            now.keys.close();
            now.keyAt.put(lastSolid());
        }

        /** The place of the row's last sign but blanks, or NONE. */
        private int lastSolid() {
            int place = row.size - 1;
            while (place >= 0 && (row.get(place) & SIGN_BITS) == BLANK) {
                place--;
            }
            return place;
        }

        /** The place of the row's first sign but blanks, or NONE. */
        int firstSolid() {
            for (int i = 0; i < row.size; i++) {
                if ((row.get(i) & SIGN_BITS) != BLANK) {
                    return i;
                }
            }
            return NONE;
        }

        private void refer(int kind, int base) {
            needKey(base);
            int label = before.labels.seek(arena, held.get(base), held.get(base + 1));
            scratch.clear();
            if (label == NONE) {
                now.unknown++;
                scratch.putMany('?', 2);
            } else if (kind == REF) {
                scratch.pour(before.refs.signs, before.refs.from(label), before.refs.to(label));
            } else {
                scratch.putNumber(before.first + before.labelAt.get(label), before.system);
            }
            putScratch();
        }
    }

    /** Part 4: words are parted at points, and rows are filled into lines. */
    private static final class Filler {
        private static final int LEAST_ROOM = 4;
        private static final int PUT_COST = 50;
        private static final int NO_POINT = 0;
        private static final int DASH_POINT = 1;
        private static final int HYPHEN_POINT = 2;

        private final Rules rules;
        private final Row starts;
        private final Row stops;
        private final Row puts;
        private final Row prefix;
        private final Row points;
        private final Row costs;
        private final Row choices;
        private final int[] digits;
        private int hang;
        private int justify;
        private boolean hyphen;
        private int partedFrom;

        Filler(Rules rules) {
            this.rules = rules;
            starts = new Row();
            stops = new Row();
            puts = new Row();
            prefix = new Row();
            points = new Row();
            costs = new Row();
            choices = new Row();
            digits = new int[MOST_LETTERS + 4];
            partedFrom = NONE;
        }

        /** No blanks ahead of lines, no hyphen points, no blanks made. */
        void openPlain() {
            prefix.clear();
            hang = 0;
            justify = 0;
            hyphen = false;
            openLines();
        }

        void openLines() {
            starts.clear();
            stops.clear();
            puts.clear();
        }

        int roomOf(int line) {
            return Math.max(LEAST_ROOM, rules.told(Rules.WIDE) - (line == 0 ? prefix.size : hang));
        }

        /** Whether a point is ahead of letter k of the row that was parted last. */
        boolean parts(int k) {
            return k >= 1 && k < MOST_LETTERS && digits[k + 1] % 2 == 1;
        }

        /** Finds the hyphen points of a row of letters; parts() tells them. */
        void partLetters(Row row, int from, int to) {
            partedFrom = from;
            for (int i = 0; i < digits.length; i++) {
                digits[i] = 0;
            }
            int size = to - from;
            if (size > MOST_LETTERS) {
                return;
            }
            for (int k = rules.exceptions.rows() - 1; k >= 0; k--) {
                if (isExceptionOf(k, row, from, to)) {
                    layException(k);
                    return;
                }
            }
            for (int k = 0; k < rules.patterns.rows(); k++) {
                for (int at = 0; at < size + 2; at++) {
                    layPattern(k, at, row, from, to);
                }
            }
            int left = rules.told(Rules.LEFT);
            int right = rules.told(Rules.RIGHT);
            for (int k = 0; k <= size; k++) {
                if (k < left || size - k < right) {
                    digits[k + 1] = 0;
                }
            }
        }

        private void layException(int k) {
            int letters = 0;
            for (int i = rules.exceptions.from(k); i < rules.exceptions.to(k); i++) {
                if (rules.exceptions.signs.get(i) != '-') {
                    letters++;
                } else if (letters < MOST_LETTERS) {
                    digits[letters + 1] = 1;
                }
            }
        }

        private boolean isExceptionOf(int k, Row row, int from, int to) {
            int at = from;
            for (int i = rules.exceptions.from(k); i < rules.exceptions.to(k); i++) {
                int sign = rules.exceptions.signs.get(i);
                if (sign != '-') {
                    if (at >= to || small(row.get(at) & SIGN_BITS) != sign) {
                        return false;
                    }
                    at++;
                }
            }
            return at == to;
        }

        /** Lays a pattern at a place of the letters with a dot ahead and behind. */
        private void layPattern(int k, int at, Row row, int from, int to) {
            Row signs = rules.patterns.signs;
            int place = at;
            for (int i = rules.patterns.from(k); i < rules.patterns.to(k); i++) {
                int sign = signs.get(i);
                if (!isDigit(sign)) {
                    int letter = from + place - 1;
                    int there = letter == from - 1 || letter == to ? '.' : small(row.get(letter) & SIGN_BITS);
                    if (letter > to || there != sign) {
                        return;
                    }
                    place++;
                }
            }
            place = at;
            for (int i = rules.patterns.from(k); i < rules.patterns.to(k); i++) {
                int sign = signs.get(i);
                if (!isDigit(sign)) {
                    place++;
                } else if (place < digits.length) {
                    digits[place] = Math.max(digits[place], sign - '0');
                }
            }
        }

        /** What kind of point, if any, is ahead of a place of a row that goes from .. to. */
        private int pointAt(Row row, int place, int from, int to) {
            if (place <= from || place >= to || row.get(place) == BLANK) {
                return NO_POINT;
            }
            int ahead = row.get(place - 1) & SIGN_BITS;
            if (ahead == '-' && place - 1 > from && row.get(place - 2) != BLANK) {
                return DASH_POINT;
            }
            if (!hyphen || !isLetter(ahead) || !isLetter(row.get(place) & SIGN_BITS)) {
                return NO_POINT;
            }
            int start = place - 1;
            while (start > from && place - start <= MOST_LETTERS && isLetter(row.get(start - 1) & SIGN_BITS)) {
                start--;
            }
            int stop = place + 1;
            while (stop < to && stop - start <= MOST_LETTERS && isLetter(row.get(stop) & SIGN_BITS)) {
                stop++;
            }
            if (stop - start > MOST_LETTERS) {
                return NO_POINT;
            }
            if (partedFrom != start) {
                partLetters(row, start, stop);
            }
            return parts(place - start) ? HYPHEN_POINT : NO_POINT;
        }

        private void putLine(int start, int stop, boolean put) {
            starts.put(start);
            stops.put(stop);
            puts.put(put ? 1 : 0);
        }

        /** Way 0: each line takes what fits. */
        void fill(Row row, int from, int to, int firstRoom, int otherRoom) {
            partedFrom = NONE;
            int at = from;
            for (int turns = to - from; turns > 0 && at < to; turns--) {
                int limit = Math.min(to, at + Math.max(1, at == from ? firstRoom : otherRoom));
                int wordStop = limit;
                while (limit < to && wordStop > at && row.get(wordStop) != BLANK) {
                    wordStop--;
                }
                int stop = wordStop > at ? wordStop : limit;
                int word = wordStop > at ? wordStop + 1 : at;
                boolean put = false;
                for (int place = limit; place > word; place--) {
                    int point = pointAt(row, place, from, to);
                    if (point == DASH_POINT || point == HYPHEN_POINT && place < limit) {
                        stop = place;
                        put = point == HYPHEN_POINT;
                        break;
                    }
                }
                putLine(at, stop, put);
                at = row.get(stop) == BLANK ? stop + 1 : stop;
            }
        }

        /** Way 1: the lines that cost least; false if there are none that fit. */
        boolean fillBest(Row row, int firstRoom, int otherRoom) {
            partedFrom = NONE;
            points.clear();
            costs.clear();
            choices.clear();
            for (int i = 0; i <= row.size; i++) {
                points.put(pointAt(row, i, 0, row.size));
                costs.put(NONE);
                choices.put(NONE);
            }
            for (int start = row.size - 1; start >= 0; start--) {
                if (start == 0 || row.get(start - 1) == BLANK || points.get(start) != NO_POINT) {
                    choose(row, start, start == 0 ? firstRoom : otherRoom);
                }
            }
            if (costs.get(0) == NONE) {
                return false;
            }
            int at = 0;
            for (int turns = row.size; turns > 0 && at < row.size; turns--) {
                int stop = choices.get(at);
                putLine(at, stop, points.get(stop) == HYPHEN_POINT);
                at = row.get(stop) == BLANK ? stop + 1 : stop;
            }
            return true;
        }

        private void choose(Row row, int start, int room) {
            for (int stop = start + 1; stop <= row.size && stop - start <= room; stop++) {
                int cost = costOf(row, start, stop, room);
                // Of several the last one stays: its line takes most of the row.
                if (cost != NONE && (costs.get(start) == NONE || cost <= costs.get(start))) {
                    costs.alter(start, cost);
                    choices.alter(start, stop);
                }
            }
        }

        private int costOf(Row row, int start, int stop, int room) {
            if (stop == row.size) {
                return 0;
            }
            boolean wordStop = row.get(stop) == BLANK;
            int point = points.get(stop);
            if (!wordStop && point == NO_POINT) {
                return NONE;
            }
            int put = point == HYPHEN_POINT ? 1 : 0;
            int left = room - (stop - start) - put;
            int rest = costs.get(wordStop ? stop + 1 : stop);
            return left < 0 || rest == NONE ? NONE : left * left + PUT_COST * put + rest;
        }

        /** Puts line i of those that were filled, with the blanks that justify makes. */
        void print(Row row, int i, Row out) {
            int from = starts.get(i);
            int to = stops.get(i);
            int left = Math.max(0, roomOf(i) - (to - from) - puts.get(i));
            if (i == 0) {
                out.pour(prefix, 0, prefix.size);
            } else {
                out.putMany(BLANK, hang);
            }
            out.putMany(BLANK, justify == 1 ? left : justify == 2 ? left / 2 : 0);
            int gaps = 0;
            for (int k = from; k < to; k++) {
                gaps += row.get(k) == BLANK ? 1 : 0;
            }
            boolean spread = justify == 3 && i + 1 < starts.size && gaps > 0;
            int each = spread ? left / gaps : 0;
            int more = spread ? left % gaps : 0;
            int gap = 0;
            for (int k = from; k < to; k++) {
                out.put(row.get(k));
                if (row.get(k) == BLANK) {
                    boolean one = i % 2 == 0 ? gap < more : gap >= gaps - more;
                    out.putMany(BLANK, one ? each + 1 : each);
                    gap++;
                }
            }
            if (puts.get(i) == 1) {
                out.put('-' | row.get(to - 1) & STYLE_BITS);
            }
        }
    }

    /** The lines that a round makes, their flow with spaces and cuts, and its pages. */
    private static final class Galley {
        private static final int MOST_LINES = 1500;
        private static final int MOST_PAGES = 99;
        private static final int LINE_WORK = 20;
        private static final int SPACE = -2;
        private static final int CUT = -3;
        private static final int STAYS = 1;
        private static final int ENDS_PUT = 2;

        private final Purse purse;
        private final Shelf made;
        private final Row origins;
        private final Row flags;
        private final Row flow;
        private final Row noteAt;
        private final Row noteFrom;
        private final Row noteTo;
        private final Row pageFrom;
        private final Row pageTo;
        private boolean begun;

        Galley(Purse purse) {
            this.purse = purse;
            made = new Shelf();
            origins = new Row();
            flags = new Row();
            flow = new Row();
            noteAt = new Row();
            noteFrom = new Row();
            noteTo = new Row();
            pageFrom = new Row();
            pageTo = new Row();
        }

        void clear() {
            made.clear();
            origins.clear();
            flags.clear();
            flow.clear();
            noteAt.clear();
            noteFrom.clear();
            noteTo.clear();
            pageFrom.clear();
            pageTo.clear();
            begun = false;
        }

        void beginBlock(int spaces) {
            if (begun) {
                flow.putMany(SPACE, spaces);
            }
            begun = true;
        }

        /** The signs put last become a line; those of notes don't flow. */
        void finish(int origin, int flag, boolean flows) {
            int line = made.rows();
            if (line >= MOST_LINES) {
                purse.fail(FAULT_MANY);
            }
            purse.spend(LINE_WORK + made.signs.size - made.from(line));
            made.close();
            origins.put(origin);
            flags.put(flag);
            if (flows) {
                flow.put(line);
            }
        }

        void paginate(int room) {
            int next = 0;
            for (int at = 0; at < flow.size; at++) {
                if (at >= next && flow.get(at) >= 0) {
                    if (pageFrom.size >= MOST_PAGES) {
                        purse.fail(FAULT_MANY);
                    }
                    int last = pageEnd(at, room);
                    pageFrom.put(at);
                    pageTo.put(last);
                    next = last + 1;
                }
            }
        }

        private int pageEnd(int at, int room) {
            int may = NONE;
            int fits = NONE;
            int foot = 0;
            int note = firstNote(at);
            for (int i = at; i < flow.size; i++) {
                if (flow.get(i) < 0) {
                    continue;
                }
                while (note < noteAt.size && noteAt.get(note) <= i) {
                    foot += noteTo.get(note) - noteFrom.get(note);
                    note++;
                }
                if (i - at + 1 + (foot > 0 ? foot + 1 : 0) > room) {
                    break;
                }
                fits = i;
                if (i + 1 == flow.size || flow.get(i + 1) == CUT) {
                    return i;
                }
                if ((flags.get(flow.get(i)) & STAYS) == 0) {
                    may = i;
                }
            }
            return may != NONE ? may : fits != NONE ? fits : at;
        }

        /** The first note that is carried at a place of the flow or behind it. */
        int firstNote(int at) {
            int note = 0;
            while (note < noteAt.size && noteAt.get(note) < at) {
                note++;
            }
            return note;
        }

        /** Places of the flow become the pages that have them. */
        void turnToPages(Row places) {
            for (int i = 0; i < places.size; i++) {
                int page = 0;
                while (page < pageTo.size && pageTo.get(page) < places.get(i)) {
                    page++;
                }
                places.alter(i, page);
            }
        }
    }

    /** Tables: their cells, and how wide their columns are. */
    private static final class Tables {
        private static final int MOST_CELLS = 8;

        private final Purse purse;
        private final Filler filler;
        private final Galley galley;
        private final Shelf cells;
        private final Row rowEnds;
        private final Row spans;
        private final int[] aligns;
        private final int[] widths;
        private final int[] firsts;
        private int columns;

        Tables(Purse purse, Filler filler, Galley galley) {
            this.purse = purse;
            this.filler = filler;
            this.galley = galley;
            cells = new Shelf();
            rowEnds = new Row();
            spans = new Row();
            aligns = new int[MOST_CELLS];
            widths = new int[MOST_CELLS];
            firsts = new int[MOST_CELLS + 1];
        }

        void open() {
            cells.clear();
            rowEnds.clear();
            columns = 0;
            for (int i = 0; i < MOST_CELLS; i++) {
                aligns[i] = '<';
                widths[i] = 1;
            }
        }

        /** Parts a line behind its first | into the spans of its cells. */
        void part(Row source, int from, int to) {
            spans.clear();
            int start = from + 1;
            int open = 0;
            boolean empty = true;
            for (int i = start; i < to; i++) {
                int sign = source.get(i);
                if (sign == '|' && open == 0) {
                    spans.put(start);
                    spans.put(i);
                    start = i + 1;
                    empty = true;
                } else {
                    empty = empty && sign == BLANK;
                    open += sign == '{' ? 1 : sign == '}' && open > 0 ? -1 : 0;
                    i += sign == '\\' ? 1 : 0;
                }
            }
            if (!empty) {
                spans.put(start);
                spans.put(to);
            }
            if (spans.size > 2 * MOST_CELLS) {
                purse.fail(FAULT_MANY);
            }
        }

        /** Whether the line that was parted last tells the columns' alignment; it is taken then. */
        boolean takeAlignment(Row source) {
            for (int k = 0; k < spans.size; k += 2) {
                if (alignOf(source, spans.get(k), spans.get(k + 1)) == NONE) {
                    return false;
                }
            }
            for (int k = 0; k < MOST_CELLS && 2 * k < spans.size; k++) {
                aligns[k] = alignOf(source, spans.get(2 * k), spans.get(2 * k + 1));
            }
            return spans.size > 0;
        }

        private static int alignOf(Row source, int from, int to) {
            int found = NONE;
            for (int i = from; i < to; i++) {
                int sign = source.get(i);
                if (sign != BLANK) {
                    if (found != NONE || sign != '<' && sign != '^' && sign != '>') {
                        return NONE;
                    }
                    found = sign;
                }
            }
            return found;
        }

        void takeCell(Row row) {
            int column = cells.rows() - (rowEnds.size > 0 ? rowEnds.get(rowEnds.size - 1) : 0);
            cells.signs.pour(row, 0, row.size);
            cells.close();
            if (column >= 0 && column < MOST_CELLS) {
                widths[column] = Math.max(widths[column], row.size);
                columns = Math.max(columns, column + 1);
            }
        }

        void closeRow() {
            rowEnds.put(cells.rows());
        }

        void narrow(int wide) {
            int all = 3 * (columns - 1);
            for (int c = 0; c < columns; c++) {
                all += widths[c];
            }
            for (int turns = all; turns > 0 && all > wide; turns--) {
                int widest = 0;
                for (int c = 1; c < columns; c++) {
                    widest = widths[c] > widths[widest] ? c : widest;
                }
                if (widths[widest] <= 1) {
                    return;
                }
                widths[widest]--;
                all--;
            }
        }

        /** Makes the lines of all rows; the first one has a line of - behind it. */
        void print(int origin) {
            for (int r = 0; r < rowEnds.size; r++) {
                int cell = r > 0 ? rowEnds.get(r - 1) : 0;
                int many = 1;
                filler.openPlain();
                for (int c = 0; c < columns; c++) {
                    firsts[c] = filler.starts.size;
                    if (cell + c < rowEnds.get(r)) {
                        filler.fill(cells.signs, cells.from(cell + c), cells.to(cell + c), widths[c], widths[c]);
                    }
                    firsts[c + 1] = filler.starts.size;
                    many = Math.max(many, firsts[c + 1] - firsts[c]);
                }
                for (int i = 0; i < many; i++) {
                    printParts(i);
                    galley.finish(origin, r == 0 || i + 1 < many ? Galley.STAYS : 0, true);
                }
                if (r == 0) {
                    printDashes();
                    galley.finish(origin, Galley.STAYS, true);
                }
            }
        }

        private void printDashes() {
            Row out = galley.made.signs;
            for (int c = 0; c < columns; c++) {
                if (c > 0) {
                    out.put('-');
                    out.put('+');
                    out.put('-');
                }
                out.putMany('-', widths[c]);
            }
        }

        private void printParts(int i) {
            Row out = galley.made.signs;
            int start = out.size;
            for (int c = 0; c < columns; c++) {
                int line = firsts[c] + i;
                boolean there = line < firsts[c + 1];
                int from = there ? filler.starts.get(line) : 0;
                int to = there ? filler.stops.get(line) : 0;
                int left = Math.max(0, widths[c] - (to - from));
                int ahead = aligns[c] == '>' ? left : aligns[c] == '^' ? left / 2 : 0;
                if (c > 0) {
                    out.put(BLANK);
                    out.put('|');
                    out.put(BLANK);
                }
                out.putMany(BLANK, ahead);
                out.pour(cells.signs, from, to);
                out.putMany(BLANK, left - ahead);
            }
            while (out.size > start && (out.get(out.size - 1) & SIGN_BITS) == BLANK) {
                out.cut(out.size - 1);
            }
        }
    }

    /** What a set() shows: lines, page by page. */
    private static final class Proof {
        private static final int NOTE_DASHES = 10;
        private static final int PAGES = 3;
        private static final int NOTES = 4;
        private static final int HEADINGS = 5;
        private static final int KEYS = 6;
        private static final int LABELS = 7;
        private static final int PUT = 8;
        private static final int ROUNDS = 9;
        private static final int SETTLED = 10;
        private static final int UNKNOWN = 11;
        private static final int LINES = 12;

        private boolean present;
        private final Shelf shown;
        private final Row origins;
        private final Row pageStarts;
        private final Row hashes;
        private final Row above;
        private final Row label;
        private final int[] tallies;

        Proof() {
            shown = new Shelf();
            origins = new Row();
            pageStarts = new Row();
            hashes = new Row();
            above = new Row();
            label = new Row();
            tallies = new int[LINES + 1];
        }

        void forget() {
            present = false;
            shown.clear();
            origins.clear();
            pageStarts.clear();
            hashes.clear();
            for (int i = 0; i < tallies.length; i++) {
                tallies[i] = 0;
            }
        }

        void copy(Proof other) {
            present = other.present;
            shown.copy(other.shown);
            hashes.copy(other.hashes);
        }

        int lineCount() {
            return shown.rows();
        }

        int tally(int what) {
            return what >= 0 && what < tallies.length ? tallies[what] : NONE;
        }

        int linesOf(int page) {
            int next = page + 1 < pageStarts.size ? pageStarts.get(page + 1) : shown.rows();
            return next - pageStarts.get(page);
        }

        int lengthOf(int line) {
            return shown.to(line) - shown.from(line);
        }

        void takeTallies(Marks marks, int keys, int rounds, boolean settled) {
            present = true;
            tallies[PAGES] = pageStarts.size;
            tallies[NOTES] = marks.notes;
            tallies[HEADINGS] = marks.titles.rows();
            tallies[KEYS] = keys;
            tallies[LABELS] = marks.labels.rows();
            tallies[ROUNDS] = rounds;
            tallies[SETTLED] = settled ? 1 : 0;
            tallies[UNKNOWN] = marks.unknown;
            tallies[LINES] = shown.rows();
        }

        void showHead(Marks marks, int page, int from, int wide) {
            label.clear();
            marks.putLabel(label, page);
            int title = NONE;
            for (int i = 0; i < marks.titles.rows(); i++) {
                if (marks.levels.get(i) == 1 && marks.headLines.get(i) <= from) {
                    title = i;
                }
            }
            int start = shown.signs.size;
            if (title != NONE) {
                int most = Math.max(0, wide - 1 - label.size);
                int titleFrom = marks.titles.from(title);
                shown.signs.pour(marks.titles.signs, titleFrom, Math.min(marks.titles.to(title), titleFrom + most));
            }
            shown.signs.putMany(BLANK, wide - label.size - (shown.signs.size - start));
            shown.signs.pour(label, 0, label.size);
            closeLine(0);
            closeLine(0);
        }

        void showPage(Galley galley, int page, int room) {
            int from = galley.pageFrom.get(page);
            int to = galley.pageTo.get(page);
            for (int i = from; i <= to; i++) {
                int line = galley.flow.get(i);
                if (line >= 0) {
                    showMade(galley, line);
                } else {
                    closeLine(0);
                }
            }
            int foot = 0;
            int note = galley.firstNote(from);
            for (int k = note; k < galley.noteAt.size && galley.noteAt.get(k) <= to; k++) {
                foot += galley.noteTo.get(k) - galley.noteFrom.get(k);
            }
            if (foot > 0) {
                showNotes(galley, note, room - (to - from + 1) - 1, foot);
            }
        }

        private void showNotes(Galley galley, int note, int left, int foot) {
            for (int i = foot; i < left; i++) {
                closeLine(0);
            }
            shown.signs.putMany('-', NOTE_DASHES);
            closeLine(0);
            int most = Math.min(left, foot);
            for (int k = note; most > 0 && k < galley.noteAt.size; k++) {
                for (int i = galley.noteFrom.get(k); i < galley.noteTo.get(k) && most > 0; i++) {
                    showMade(galley, i);
                    most--;
                }
            }
        }

        private void showMade(Galley galley, int line) {
            shown.signs.pour(galley.made.signs, galley.made.from(line), galley.made.to(line));
            closeLine(galley.origins.get(line));
            if ((galley.flags.get(line) & Galley.ENDS_PUT) != 0) {
                tallies[PUT]++;
            }
        }

        private void closeLine(int origin) {
            int hash = 0;
            for (int i = shown.from(shown.rows()); i < shown.signs.size; i++) {
                hash = hash * 31 + (shown.signs.get(i) & SIGN_BITS);
            }
            hashes.put(hash);
            origins.put(origin);
            shown.close();
        }

        private boolean sameLine(int line, Proof other, int otherLine) {
            return hashes.get(line) == other.hashes.get(otherLine) && lengthOf(line) == other.lengthOf(otherLine)
                && shown.signs.stands(shown.from(line), other.shown.signs,
                    other.shown.from(otherLine), other.shown.to(otherLine));
        }

        int firstChange(Proof other) {
            int least = Math.min(shown.rows(), other.shown.rows());
            for (int i = 0; i < least; i++) {
                if (!sameLine(i, other, i)) {
                    return i;
                }
            }
            return shown.rows() == other.shown.rows() ? NONE : least;
        }

        /** How many lines the longest row has that both have. */
        int common(Proof other) {
            int size = shown.rows();
            int otherSize = other.shown.rows();
            int ahead = 0;
            while (ahead < size && ahead < otherSize && sameLine(ahead, other, ahead)) {
                ahead++;
            }
            int behind = 0;
            while (behind < size - ahead && behind < otherSize - ahead
                && sameLine(size - 1 - behind, other, otherSize - 1 - behind)) {
                behind++;
            }
            above.clear();
            above.putMany(0, otherSize - ahead - behind + 1);
            for (int i = ahead; i < size - behind; i++) {
                int corner = 0;
                for (int j = 1; j < above.size; j++) {
                    int up = above.get(j);
                    boolean same = sameLine(i, other, ahead + j - 1);
                    above.alter(j, same ? corner + 1 : Math.max(up, above.get(j - 1)));
                    corner = up;
                }
            }
            return ahead + behind + above.get(above.size - 1);
        }
    }

    /** Goes through the blocks of the manuscript, round by round. */
    private static final class Setter {
        private static final int EMPTY = 0;
        private static final int DIRECTIVE = 1;
        private static final int HEADING = 2;
        private static final int TABLE = 3;
        private static final int RAW = 4;
        private static final int ITEM = 5;
        private static final int TEXT = 6;

        private static final int MOST_HEADINGS = 60;
        private static final int BLOCK_WORK = 15;
        private static final int CELL_WORK = 15;
        private static final int LEVELS = 3;
        // More than any block has lines: no page ends within or behind.
        private static final int HOLD_ALL = 9999;

        private final Row manuscript;
        private final Purse purse;
        private final Rules rules;
        private final Texts texts;
        private final Filler filler;
        private final Galley galley;
        private final Tables tables;
        private Marks now;
        private Marks before;
        private final Row starts;
        private final Row stops;
        private final Row kinds;
        private final Row text;
        private final Row scratch;
        private final int[] numbers;
        private final int[] counts;
        private int line;
        private int rounds;
        private boolean settled;

        Setter(Row manuscript, Purse purse, Rules rules, Texts texts, Filler filler, Marks marks) {
            this.manuscript = manuscript;
            this.purse = purse;
            this.rules = rules;
            this.texts = texts;
            this.filler = filler;
            galley = new Galley(purse);
            tables = new Tables(purse, filler, galley);
            now = marks;
            before = new Marks();
            starts = new Row();
            stops = new Row();
            kinds = new Row();
            text = new Row();
            scratch = new Row();
            numbers = new int[LEVELS + 1];
            counts = new int[LEVELS];
        }

        void open() {
            starts.clear();
            stops.clear();
            kinds.clear();
            int start = 0;
            for (int i = 0; i < manuscript.size; i++) {
                boolean end = manuscript.get(i) == END;
                if (end || i + 1 == manuscript.size) {
                    int stop = end ? i : i + 1;
                    starts.put(start);
                    stops.put(stop);
                    kinds.put(kindOf(start, stop));
                    start = i + 1;
                }
            }
            now.clear();
            rules.clear();
            rounds = 0;
            settled = false;
        }

        void forget() {
            now.clear();
        }

        void show(Proof proof) {
            for (int page = 0; page < galley.pageFrom.size; page++) {
                proof.pageStarts.put(proof.lineCount());
                if (rules.told(Rules.HEAD) == 1) {
                    proof.showHead(now, page, galley.pageFrom.get(page), rules.told(Rules.WIDE));
                }
                proof.showPage(galley, page, pageRoom());
            }
            now.order(scratch);
            proof.takeTallies(now, scratch.size, rounds, settled);
        }

        private int kindOf(int from, int to) {
            int solid = from;
            while (solid < to && manuscript.get(solid) == BLANK) {
                solid++;
            }
            if (solid == to) {
                return EMPTY;
            }
            int blanks = solid - from;
            int sign = manuscript.get(solid);
            if (blanks == 0 && sign == '@') {
                return DIRECTIVE;
            }
            if (blanks == 0 && sign == '|') {
                return TABLE;
            }
            if (blanks == 0 && sign == '>') {
                return RAW;
            }
            if (blanks == 0 && sign == '=' && levelOf(from, to) != NONE) {
                return HEADING;
            }
            boolean item = (sign == '-' || sign == '#') && solid + 1 < to && manuscript.get(solid + 1) == BLANK;
            return item && blanks <= 4 && blanks % 2 == 0 ? ITEM : TEXT;
        }

        private int levelOf(int from, int to) {
            int level = 0;
            while (level <= LEVELS && from + level < to && manuscript.get(from + level) == '=') {
                level++;
            }
            boolean good = level >= 1 && level <= LEVELS && from + level < to && manuscript.get(from + level) == BLANK;
            return good ? level : NONE;
        }

        /** All blocks are gone through, and the pages are made. */
        void round(int number) {
            line = 0;
            openRound(number);
            purse.spend(kinds.size);
            boolean joined = false;
            int next = 0;
            for (int at = 0; at < kinds.size; at = next) {
                int kind = kinds.get(at);
                next = Math.max(at + 1, blockEnd(at));
                if (kind != EMPTY) {
                    line = at + 1;
                    purse.spend(BLOCK_WORK);
                }
                switch (kind) {
                    case DIRECTIVE:
                        int told = rules.follow(manuscript, starts.get(at), stops.get(at));
                        if (told == Rules.TOC) {
                            contents();
                        } else if (told == Rules.INDEX) {
                            index();
                        } else if (told == Rules.PAGE) {
                            galley.flow.put(Galley.CUT);
                        }
                        break;
                    case HEADING:
                        heading(at);
                        break;
                    case TABLE:
                        workTable(at, next);
                        if (tables.columns > 0) {
                            galley.beginBlock(rules.told(Rules.GAP));
                            tables.print(line);
                        }
                        break;
                    case RAW:
                        raw(at, next);
                        break;
                    case ITEM:
                        beginItem(at, next, joined);
                        fillText(joined ? 0 : rules.told(Rules.GAP), true);
                        printNotes();
                        break;
                    case TEXT:
                        beginParagraph(at, next);
                        fillText(rules.told(Rules.GAP), false);
                        printNotes();
                        break;
                    default:
                }
                joined = kind == ITEM;
            }
            closeRound();
        }

        private void closeRound() {
            galley.paginate(pageRoom());
            galley.turnToPages(now.labelAt);
            galley.turnToPages(now.headAt);
            galley.turnToPages(now.keyAt);
            now.first = rules.told(Rules.FIRST);
            now.system = rules.told(Rules.SYSTEM);
            settled = now.like(before);
        }

        private void openRound(int number) {
            rounds = number;
            Marks former = now;
            now = before;
            before = former;
            now.clear();
            rules.clear();
            galley.clear();
            texts.openRound(now, before);
            for (int i = 0; i < numbers.length; i++) {
                numbers[i] = 0;
            }
        }

        private int pageRoom() {
            return rules.told(Rules.HIGH) - 2 * rules.told(Rules.HEAD);
        }

        private int blockEnd(int at) {
            int kind = kinds.get(at);
            int next = at + 1;
            boolean many = kind == TABLE || kind == RAW || kind == TEXT;
            while (next < kinds.size && (many && kinds.get(next) == kind
                || kind == ITEM && kinds.get(next) == TEXT && manuscript.get(starts.get(next)) == BLANK)) {
                next++;
            }
            return next;
        }

        /** The TEXT of a block, whose first line begins with so many signs that are none of it. */
        private void gather(int at, int next, int skip) {
            text.clear();
            for (int k = at; k < next; k++) {
                if (k > at) {
                    text.put(BLANK);
                }
                text.pour(manuscript, starts.get(k) + (k == at ? skip : 0), stops.get(k));
            }
        }

        private void heading(int at) {
            if (now.titles.rows() >= MOST_HEADINGS) {
                purse.fail(FAULT_MANY);
            }
            int level = Math.max(1, Math.min(LEVELS, levelOf(starts.get(at), stops.get(at))));
            numbers[level]++;
            for (int deeper = level + 1; deeper <= LEVELS; deeper++) {
                numbers[deeper] = 0;
            }
            now.latest.clear();
            for (int k = 1; k <= level; k++) {
                now.latest.putMany('.', k > 1 ? 1 : 0);
                now.latest.putNumber(numbers[k], 1);
            }
            texts.openText(Texts.BUT_NOTES);
            texts.beginWith(now.latest);
            gather(at, at + 1, level + 1);
            int label = now.labels.rows();
            int key = now.keys.rows();
            texts.work(text, 0, text.size, 0);
            Row words = texts.row;
            now.titles.signs.pourMasked(words, 0, words.size, SIGN_BITS);
            now.titles.close();
            now.levels.put(level);
            for (int i = 0; i < words.size; i++) {
                words.alter(i, words.get(i) == BLANK ? BLANK : words.get(i) | BOLD << STYLE_SHIFT);
            }
            filler.openPlain();
            filler.hang = now.latest.size + 1;
            filler.fill(words, 0, words.size, filler.roomOf(0), filler.roomOf(1));
            galley.beginBlock(Math.max(1, rules.told(Rules.GAP)));
            int first = galley.flow.size;
            now.headAt.put(first);
            now.headLines.put(first);
            printLines(words, HOLD_ALL, true);
            carry(first, label, key);
        }

        private void beginParagraph(int at, int next) {
            gather(at, next, 0);
            filler.openPlain();
            filler.prefix.putMany(BLANK, rules.told(Rules.INDENT));
        }

        private void beginItem(int at, int next, boolean joined) {
            int from = starts.get(at);
            int depth = 0;
            while (depth < LEVELS - 1 && manuscript.get(from + 2 * depth) == BLANK) {
                depth++;
            }
            for (int d = joined ? depth + 1 : 0; d < LEVELS; d++) {
                counts[d] = 0;
            }
            filler.openPlain();
            filler.prefix.putMany(BLANK, 2 * depth);
            if (manuscript.get(from + 2 * depth) == '#') {
                counts[depth]++;
                now.latest.clear();
                now.latest.putNumber(counts[depth], depth == 0 ? 1 : depth == 1 ? 4 : 2);
                filler.prefix.pour(now.latest, 0, now.latest.size);
                filler.prefix.put(depth == 1 ? ')' : '.');
            } else {
                filler.prefix.put(depth == 0 ? '-' : depth == 1 ? '*' : '+');
            }
            filler.prefix.put(BLANK);
            filler.hang = filler.prefix.size;
            gather(at, next, 2 * depth + 2);
        }

        /** Works the text of a paragraph or an item, and makes its lines. */
        private void fillText(int spaces, boolean item) {
            texts.openText(Texts.ALL_MARKS);
            int label = now.labels.rows();
            int key = now.keys.rows();
            texts.work(text, 0, text.size, 0);
            boolean marked = now.labels.rows() > label || now.keys.rows() > key;
            if (marked && texts.firstSolid() == NONE) {
                purse.fail(FAULT_MARK);
            }
            Row words = texts.row;
            if (words.size == 0 && !item) {
                return;
            }
            filler.justify = rules.told(Rules.JUSTIFY);
            filler.hyphen = rules.told(Rules.HYPH) == 1;
            boolean best = rules.told(Rules.FILL) == 1 && filler.fillBest(words, filler.roomOf(0), filler.roomOf(1));
            if (!best) {
                filler.fill(words, 0, words.size, filler.roomOf(0), filler.roomOf(1));
            }
            galley.beginBlock(spaces);
            int first = galley.flow.size;
            printLines(words, rules.told(Rules.KEEP), true);
            carry(first, label, key);
            for (int k = 0; k < texts.notes.rows(); k++) {
                galley.noteAt.put(first + lineOf(texts.carriers.get(k)));
            }
        }

        /** Makes the lines of the block's notes. */
        private void printNotes() {
            Shelf notes = texts.notes;
            for (int k = 0; k < notes.rows(); k++) {
                filler.openPlain();
                filler.hyphen = rules.told(Rules.HYPH) == 1;
                filler.prefix.putNumber(now.notes - notes.rows() + 1 + k, 1);
                filler.prefix.put('.');
                filler.prefix.put(BLANK);
                filler.hang = filler.prefix.size;
                filler.fill(notes.signs, notes.from(k), notes.to(k), filler.roomOf(0), filler.roomOf(1));
                galley.noteFrom.put(galley.made.rows());
                printLines(notes.signs, 0, false);
                galley.noteTo.put(galley.made.rows());
            }
        }

        /** Makes the lines that were filled; a row without words has its prefix alone. */
        private void printLines(Row words, int hold, boolean flows) {
            int many = filler.starts.size;
            Row out = galley.made.signs;
            if (many == 0) {
                out.pour(filler.prefix, 0, filler.prefix.size - 1);
                galley.finish(line, 0, flows);
            }
            for (int i = 0; i < many; i++) {
                filler.print(words, i, out);
                boolean within = i + 1 < many && (i + 1 < hold || many - i - 1 < hold);
                int flag = within || hold == HOLD_ALL ? Galley.STAYS : 0;
                galley.finish(line, filler.puts.get(i) == 1 ? flag | Galley.ENDS_PUT : flag, flows);
            }
        }

        /** Which of the lines that were filled has a place of the row. */
        private int lineOf(int place) {
            int i = 0;
            while (i + 1 < filler.stops.size && filler.stops.get(i) <= place) {
                i++;
            }
            return i;
        }

        /** The block's labels and index marks, which know the signs that carry them, go to their lines. */
        private void carry(int first, int label, int key) {
            int solid = texts.firstSolid();
            for (int k = label; k < now.labelAt.size; k++) {
                int place = now.labelAt.get(k);
                now.labelAt.alter(k, first + lineOf(place == NONE ? solid : place));
            }
            for (int k = key; k < now.keyAt.size; k++) {
                int place = now.keyAt.get(k);
                now.keyAt.alter(k, first + lineOf(place == NONE ? solid : place));
            }
        }

        private void workTable(int at, int next) {
            tables.open();
            for (int k = at; k < next; k++) {
                tables.part(manuscript, starts.get(k), stops.get(k));
                if (k == at && tables.takeAlignment(manuscript)) {
                    continue;
                }
                for (int c = 0; c < tables.spans.size; c += 2) {
                    purse.spend(CELL_WORK);
                    texts.openText(Texts.NO_MARKS);
                    texts.work(manuscript, tables.spans.get(c), tables.spans.get(c + 1), 0);
                    tables.takeCell(texts.row);
                }
                tables.closeRow();
            }
            tables.narrow(rules.told(Rules.WIDE));
        }

        private void raw(int at, int next) {
            galley.beginBlock(rules.told(Rules.GAP));
            for (int k = at; k < next; k++) {
                int from = starts.get(k) + 1;
                galley.made.signs.pour(manuscript, from, Math.min(stops.get(k), from + rules.told(Rules.WIDE)));
                galley.finish(line, 0, true);
            }
        }

        private void contents() {
            int wide = rules.told(Rules.WIDE);
            Row out = galley.made.signs;
            if (before.titles.rows() > 0) {
                galley.beginBlock(rules.told(Rules.GAP));
            }
            for (int k = 0; k < before.titles.rows(); k++) {
                scratch.clear();
                before.putLabel(scratch, before.headAt.get(k));
                int start = out.size;
                out.putMany(BLANK, 2 * (before.levels.get(k) - 1));
                out.pour(before.titles.signs, before.titles.from(k), before.titles.to(k));
                out.cut(start + Math.max(0, wide - 3 - scratch.size));
                out.put(BLANK);
                out.putMany('.', Math.max(1, wide - (out.size - start) - 1 - scratch.size));
                out.put(BLANK);
                out.pour(scratch, 0, scratch.size);
                galley.finish(line, 0, true);
            }
        }

        private void index() {
            before.order(scratch);
            if (scratch.size > 0) {
                galley.beginBlock(rules.told(Rules.GAP));
            }
            for (int k = 0; k < scratch.size; k++) {
                text.clear();
                before.putEntry(scratch.get(k), text);
                filler.openPlain();
                filler.hang = 2;
                filler.fill(text, 0, text.size, filler.roomOf(0), filler.roomOf(1));
                printLines(text, 0, true);
            }
        }
    }
}
