/** Bells rung in changes. The words in capitals are those of the document. */
public final class BellTouches {
    public static final int UNKNOWN = -1, OUTSIDE = -2, STATE = -3, FULL = -4, NONE = -6, FAULT = -7;

    private static final int FEWEST_BELLS = 4;
    private static final int MOST_BELLS = 8;
    private static final int BELLS_AT_FIRST = 6;
    private static final int MOST_SIGNS = 40;
    private static final int MOST_CHANGES = 40;
    private static final int MOST_LEADS = 40;
    private static final int PLAIN = 0;
    private static final int WITH_BOB = 1;
    private static final int WITH_SINGLE = 2;
    private static final int KINDS = 3;
    private static final int ALL_KINDS = 7;
    private static final int LEADS_OF_LONGEST = 5;
    private static final int NO_ROW = -1;

    private final Setting now = new Setting();
    private final Setting firstImage = new Setting();
    private final Setting secondImage = new Setting();
    private int imagesKept = 0;
    private final Pad pad = new Pad();
    private final Notation notation = new Notation();
    private final Leads leads = new Leads();
    private final Ringing ringing = new Ringing();
    private final FalseHeads falseHeads = new FalseHeads();
    private final Search search = new Search();
    private final Longest touches = new Longest();

    public BellTouches() {
        now.begin(BELLS_AT_FIRST);
        settle();
    }

    // ---- 1 methods, touches

    public int bells(int v) {
        if (v < FEWEST_BELLS || v > MOST_BELLS) {
            return OUTSIDE;
        }
        int before = now.many;
        now.begin(v);
        settle();
        return before;
    }

    public int say(int sign) {
        if (sign < 33 || sign > 126) {
            return OUTSIDE;
        }
        return pad.add(sign) ? pad.size : FULL;
    }

    public int wipe() {
        int had = pad.size;
        pad.size = 0;
        return had;
    }

    public int fault(int how) {
        switch (how) {
            case 0:
                return notation.read(pad, now.many, true);
            case 1:
                return notation.read(pad, now.many, false);
            case 2:
                return pad.faultAsTouch();
            default:
                return OUTSIDE;
        }
    }

    public int method() {
        if (notation.read(pad, now.many, true) != NONE) {
            return FAULT;
        }
        if (notation.length() > MOST_CHANGES) {
            return FULL;
        }
        now.changeCount = notation.writeTo(now.changes);
        pad.size = 0;
        settle();
        return now.changeCount;
    }

    public int call(int which) {
        if (which < 0 || which > 1) {
            return OUTSIDE;
        }
        if (notation.read(pad, now.many, false) != NONE) {
            return FAULT;
        }
        int stays = notation.firstChange();
        if (which == 0) {
            now.bob = stays;
        } else {
            now.single = stays;
        }
        pad.size = 0;
        settle();
        return Integer.bitCount(stays);
    }

    public int touch() {
        if (pad.faultAsTouch() != NONE) {
            return FAULT;
        }
        now.leadCount = pad.writeTouchTo(now.letters);
        pad.size = 0;
        ringing.ring(now, leads);
        return now.leadCount;
    }

    public int change(int i) {
        if (i == -1) {
            return now.bob;
        }
        if (i == -2) {
            return now.single;
        }
        return i >= 0 && i < now.changeCount ? now.changes[i] : NONE;
    }

    // ---- 2 rows

    public int row(int i) {
        if (!hasMethodAndTouch()) {
            return STATE;
        }
        return ringing.has(i) ? Rows.number(ringing.rowAt(i), now.many) : NONE;
    }

    public int told(int what) {
        if (what < 0 || what > 6) {
            return OUTSIDE;
        }
        if (!hasMethodAndTouch()) {
            return STATE;
        }
        switch (what) {
            case 0:
                return ringing.last;
            case 1:
                return ringing.firstFalse() == NONE ? 1 : 0;
            case 2:
                return ringing.falseRows();
            case 3:
                return ringing.firstFalse();
            case 4:
                return ringing.comesRoundAt();
            case 5:
                return ringing.likedRows();
            default:
                return now.leadCount;
        }
    }

    public int bell(int bell, int i, int what) {
        if (bell < 1 || bell > now.many) {
            return UNKNOWN;
        }
        if (what < 0 || what > 3) {
            return OUTSIDE;
        }
        if (!hasMethodAndTouch()) {
            return STATE;
        }
        switch (what) {
            case 0:
                return ringing.has(i) ? Rows.placeOf(bell, ringing.rowAt(i), now.many) : NONE;
            case 1:
                return ringing.placesEverOf(bell);
            case 2:
                return ringing.timesFirst(bell);
            default:
                return ringing.longestStay(bell);
        }
    }

    public int head(int letter, int what) {
        if (letter < 0 || letter >= KINDS || what < 0 || what > 1) {
            return OUTSIDE;
        }
        if (!hasMethod()) {
            return STATE;
        }
        return what == 0 ? Rows.number(leads.after(leads.rounds, letter), now.many) : leads.untilRounds(letter);
    }

    public int falseHead(int i) {
        if (!hasMethod()) {
            return STATE;
        }
        falseHeads.collect(leads);
        return i == -1 ? falseHeads.size : falseHeads.numberAt(i);
    }

    // ---- 3 what can come

    public int reached(int letters) {
        if (letters < 1 || letters > ALL_KINDS) {
            return OUTSIDE;
        }
        return hasMethod() ? search.rowsReached(leads, letters) : STATE;
    }

    public int by(int number, int i) {
        int row = Rows.ofNumber(number, now.many);
        if (row == NO_ROW) {
            return OUTSIDE;
        }
        if (!hasMethod()) {
            return STATE;
        }
        int fewest = search.fewestLeads(leads, row);
        if (i == -1 || fewest == NONE) {
            return fewest;
        }
        return i >= 0 && i < fewest ? search.letterFromEnd(leads, row, fewest - 1 - i) : NONE;
    }

    public int longest(int n, int i) {
        if (n < 1 || n > LEADS_OF_LONGEST) {
            return OUTSIDE;
        }
        if (!hasMethod()) {
            return STATE;
        }
        int node = touches.find(leads, n);
        int length = touches.depthOf(node);
        if (length == 0) {
            return NONE;
        }
        if (i == -1) {
            return length * now.changeCount;
        }
        return i >= 0 && i < length ? touches.letterFromEnd(node, length - 1 - i) : NONE;
    }

    // ---- 4 images

    public int image(int k) {
        if (k < 0 || k > 1) {
            return OUTSIDE;
        }
        imageOf(k).copyFrom(now);
        imagesKept |= 1 << k;
        return 1;
    }

    public int restore(int k) {
        if (k < 0 || k > 1) {
            return OUTSIDE;
        }
        if ((imagesKept >> k & 1) == 0) {
            return STATE;
        }
        now.copyFrom(imageOf(k));
        settle();
        return 1;
    }

    public int count(int what) {
        switch (what) {
            case 0:
                return now.many;
            case 1:
                return now.changeCount;
            case 2:
                return now.leadCount;
            case 3:
                return pad.size;
            case 4:
                return imagesKept;
            default:
                return OUTSIDE;
        }
    }

    private boolean hasMethod() {
        return now.changeCount > 0;
    }

    private boolean hasMethodAndTouch() {
        return now.changeCount > 0 && now.leadCount > 0;
    }

    private Setting imageOf(int k) {
        return k == 0 ? firstImage : secondImage;
    }

    /** To be called whenever MANY, METHOD, BOB or SINGLE may have changed: all else follows from them. */
    private void settle() {
        leads.prepare(now);
        ringing.ring(now, leads);
        falseHeads.forget();
        search.forget();
    }

    /** What an IMAGE keeps. A CHANGE is held as the set of PLACES at which BELLS stay, bit p for PLACE p. */
    private static final class Setting {
        private int many = BELLS_AT_FIRST;
        private final int[] changes = new int[MOST_CHANGES];
        private int changeCount = 0;
        private int bob = 0;
        private int single = 0;
        private final int[] letters = new int[MOST_LEADS];
        private int leadCount = 0;

        void begin(int bells) {
            int lastStays = bells % 2 == 1 ? 1 << bells : 0;
            many = bells;
            changeCount = 0;
            leadCount = 0;
            bob = 1 << 1 | 1 << 4 | lastStays;
            single = 1 << 1 | 1 << 2 | 1 << 3 | 1 << 4 | lastStays;
        }

        void copyFrom(Setting other) {
            many = other.many;
            changeCount = other.changeCount;
            bob = other.bob;
            single = other.single;
            leadCount = other.leadCount;
            System.arraycopy(other.changes, 0, changes, 0, MOST_CHANGES);
            System.arraycopy(other.letters, 0, letters, 0, MOST_LEADS);
        }
    }

    /** THE PAD. */
    private static final class Pad {
        private final int[] signs = new int[MOST_SIGNS];
        private int size = 0;

        boolean add(int sign) {
            if (size >= MOST_SIGNS) {
                return false;
            }
            signs[size] = sign;
            size++;
            return true;
        }

        int faultAsTouch() {
            for (int i = 0; i < size; i++) {
                if (kindOf(signs[i]) == NONE) {
                    return i;
                }
            }
            return size == 0 ? 0 : NONE;
        }

        /** Answers how many letters there are. */
        int writeTouchTo(int[] letters) {
            int written = Math.min(size, letters.length);
            for (int i = 0; i < written; i++) {
                letters[i] = kindOf(signs[i]);
            }
            return written;
        }

        private static int kindOf(int sign) {
            switch (sign) {
                case 'p':
                    return PLAIN;
                case 'b':
                    return WITH_BOB;
                case 's':
                    return WITH_SINGLE;
                default:
                    return NONE;
            }
        }
    }

    /**
     * Reads THE PAD sign by sign as a METHOD or as one CHANGE. Every text that has no fault so far can be ended:
     * a figure p at which a CHANGE can't end has always p + 1 behind it, at which it can.
     */
    private static final class Notation {
        /** What was read last, if it was no figure. */
        private static final int NOTHING = 0, CROSS = -1, POINT = -2, COMMA = -3;

        private int many = BELLS_AT_FIRST;
        private boolean asMethod = false;
        /** The figure that was read last, or one of the above. */
        private int last = NOTHING;
        private final int[] sets = new int[MOST_SIGNS];
        private int setCount = 0;
        /** How many CHANGES there are ahead of the comma; NONE: there is no comma. */
        private int aheadOfComma = NONE;

        /** Answers THE FAULT. */
        int read(Pad pad, int bells, boolean method) {
            many = bells;
            asMethod = method;
            last = NOTHING;
            setCount = 0;
            aheadOfComma = NONE;
            for (int i = 0; i < pad.size; i++) {
                if (!take(pad.signs[i])) {
                    return i;
                }
            }
            return changeCanEnd() ? NONE : pad.size;
        }

        int firstChange() {
            return sets[0];
        }

        /** How many CHANGES the METHOD that was read has. */
        int length() {
            return aheadOfComma == NONE ? setCount : 2 * setCount - 2;
        }

        /** Answers how many CHANGES were written; there must be room for all. */
        int writeTo(int[] changes) {
            if (length() > changes.length) {
                return 0;
            }
            if (aheadOfComma == NONE) {
                System.arraycopy(sets, 0, changes, 0, setCount);
                return setCount;
            }
            int written = writeThereAndBack(changes, 0, 0, aheadOfComma);
            return writeThereAndBack(changes, written, aheadOfComma, setCount);
        }

        private int writeThereAndBack(int[] changes, int at, int from, int to) {
            int next = at;
            for (int i = from; i < to && next < changes.length; i++) {
                changes[next] = sets[i];
                next++;
            }
            for (int i = to - 2; i >= from && next < changes.length; i--) {
                changes[next] = sets[i];
                next++;
            }
            return next;
        }

        private boolean take(int sign) {
            switch (sign) {
                case 'x':
                    return takeCross();
                case '.':
                    return takePoint();
                case ',':
                    return takeComma();
                default:
                    return takeFigure(sign - '0');
            }
        }

        private boolean takeCross() {
            boolean begins = last == NOTHING || asMethod && (last == COMMA || changeCanEnd());
            if (many % 2 != 0 || !begins) {
                return false;
            }
            last = CROSS;
            return addSet();
        }

        private boolean takePoint() {
            if (!asMethod || last == CROSS || !changeCanEnd()) {
                return false;
            }
            last = POINT;
            return true;
        }

        private boolean takeComma() {
            if (!asMethod || aheadOfComma != NONE || !changeCanEnd()) {
                return false;
            }
            aheadOfComma = setCount;
            last = COMMA;
            return true;
        }

        private boolean takeFigure(int place) {
            int before = Math.max(last, 0);
            boolean evenGap = (place - before) % 2 == 1;
            if (place <= before || place > many || !evenGap || !asMethod && last == CROSS) {
                return false;
            }
            if (before == 0 && !addSet()) {
                return false;
            }
            if (setCount > 0) {
                sets[setCount - 1] |= 1 << place;
            }
            last = place;
            return true;
        }

        private boolean addSet() {
            if (setCount >= MOST_SIGNS) {
                return false;
            }
            sets[setCount] = 0;
            setCount++;
            return true;
        }

        private boolean changeCanEnd() {
            return last == CROSS || last > 0 && (many - last) % 2 == 0;
        }
    }

    /**
     * A ROW is held as one int, three bits for each PLACE, PLACE 1 lowest; they hold the BELL's number less 1.
     * So rows cost no objects, and a CHANGE is a few operations on all PLACES at once.
     */
    private static final class Rows {
        private static final int BITS = 3, ONE_PLACE = 7;

        private Rows() {
        }

        static int rounds(int many) {
            int row = 0;
            for (int place = 0; place < many; place++) {
                row |= place << BITS * place;
            }
            return row;
        }

        static int howMany(int many) {
            int rows = 1;
            for (int bell = 2; bell <= many; bell++) {
                rows *= bell;
            }
            return rows;
        }

        static int bellAt(int place, int row) {
            return (row >>> BITS * (place - 1) & ONE_PLACE) + 1;
        }

        static int placeOf(int bell, int row, int many) {
            for (int place = 1; place < many; place++) {
                if (bellAt(place, row) == bell) {
                    return place;
                }
            }
            return many;
        }

        static int number(int row, int many) {
            int number = 0;
            for (int place = 1; place <= many; place++) {
                number = number * 10 + bellAt(place, row);
            }
            return number;
        }

        static int ofNumber(int number, int many) {
            int row = 0;
            int left = number;
            int used = 0;
            for (int place = many; place >= 1; place--) {
                int bell = left % 10;
                if (bell < 1 || bell > many || (used >> bell & 1) == 1) {
                    return NO_ROW;
                }
                used |= 1 << bell;
                row |= bell - 1 << BITS * (place - 1);
                left /= 10;
            }
            return left == 0 ? row : NO_ROW;
        }

        /** The bits of all PLACES that change with the PLACE behind, as stepped wants them. */
        static int step(int stays, int many) {
            int step = 0;
            int place = 1;
            while (place < many) {
                if ((stays >> place & 1) == 1) {
                    place++;
                } else {
                    step |= ONE_PLACE << BITS * (place - 1);
                    place += 2;
                }
            }
            return step;
        }

        /** The ROW that a CHANGE makes of a ROW. */
        static int stepped(int row, int step) {
            int differing = (row ^ row >>> BITS) & step;
            return row ^ differing ^ differing << BITS;
        }

        /** What comes of a ROW by all that makes the other one of ROUNDS. */
        static int through(int row, int other, int many) {
            int made = 0;
            int end = BITS * many;
            for (int at = 0; at < end; at += BITS) {
                made |= (row >>> BITS * (other >>> at & ONE_PLACE) & ONE_PLACE) << at;
            }
            return made;
        }

        /** The ROW of which through makes the one given. */
        static int back(int made, int other, int many) {
            int row = 0;
            int end = BITS * many;
            for (int at = 0; at < end; at += BITS) {
                row |= (made >>> at & ONE_PLACE) << BITS * (other >>> at & ONE_PLACE);
            }
            return row;
        }

        static boolean liked(int row, int many) {
            int rise = bellAt(many, row) - bellAt(many - 1, row);
            return (rise == 1 || rise == -1) && bellAt(many - 1, row) - bellAt(many - 2, row) == rise;
        }
    }

    /** A set of ROWS, each with a tag from 0 to 3. */
    private static final class RowTable {
        private static final int SPREAD = 0x9E3779B1, ROW_BITS = 24, ROW_MASK = (1 << ROW_BITS) - 1;

        /** The fill at which it was put stands above the tag and the ROW, so that emptying need not touch them. */
        private long[] slots = new long[1];
        private int bits = 0;
        private int fill = 1;

        /** Empties it and makes room for so many ROWS. */
        void empty(int rows) {
            bits = 1;
            while (bits < ROW_BITS && 1 << bits < rows + rows / 2) {
                bits++;
            }
            if (slots.length < 1 << bits) {
                slots = new long[1 << bits];
            }
            fill++;
        }

        /** Whether it was not yet there. */
        boolean put(int row, int tag) {
            int slot = slotOf(row);
            if (isTaken(slot)) {
                return false;
            }
            slots[slot] = (long) fill << 32 | tag << ROW_BITS | row;
            return true;
        }

        int tagOf(int row) {
            int slot = slotOf(row);
            if (!isTaken(slot) || ((int) slots[slot] & ROW_MASK) != row) {
                return NONE;
            }
            return (int) slots[slot] >>> ROW_BITS;
        }

        private boolean isTaken(int slot) {
            return (int) (slots[slot] >>> 32) == fill;
        }

        /** Where the ROW is, or else where it can be put. */
        private int slotOf(int row) {
            int mask = (1 << bits) - 1;
            int slot = row * SPREAD >>> 32 - bits & mask;
            for (int tries = 0; tries < mask; tries++) {
                long entry = slots[slot];
                if ((int) (entry >>> 32) != fill || ((int) entry & ROW_MASK) == row) {
                    return slot;
                }
                slot = slot + 1 & mask;
            }
            return slot;
        }
    }

    /** The METHOD with BOB and SINGLE, made ready for ringing. */
    private static final class Leads {
        private int many = BELLS_AT_FIRST;
        private int rounds = 0;
        private final int[] steps = new int[MOST_CHANGES];
        private int size = 0;
        /** What all CHANGES of a LEAD but the last one make of ROUNDS. */
        private int body = 0;
        private int plainEnd = 0;
        private int bobEnd = 0;
        private int singleEnd = 0;

        void prepare(Setting setting) {
            many = setting.many;
            rounds = Rows.rounds(many);
            size = setting.changeCount;
            body = rounds;
            for (int i = 0; i < size; i++) {
                steps[i] = Rows.step(setting.changes[i], many);
                if (i < size - 1) {
                    body = Rows.stepped(body, steps[i]);
                }
            }
            plainEnd = size > 0 ? steps[size - 1] : 0;
            bobEnd = Rows.step(setting.bob, many);
            singleEnd = Rows.step(setting.single, many);
        }

        int endOf(int letter) {
            if (letter == PLAIN) {
                return plainEnd;
            }
            return letter == WITH_BOB ? bobEnd : singleEnd;
        }

        /** The ROW at the end of a LEAD that begins with a ROW. */
        int after(int row, int letter) {
            return Rows.stepped(Rows.through(row, body, many), endOf(letter));
        }

        /** The ROW with which a LEAD begins that ends with a ROW. */
        int ahead(int row, int letter) {
            return Rows.back(Rows.stepped(row, endOf(letter)), body, many);
        }

        int untilRounds(int letter) {
            int row = rounds;
            int most = Rows.howMany(many);
            for (int leads = 1; leads <= most; leads++) {
                row = after(row, letter);
                if (row == rounds) {
                    return leads;
                }
            }
            return most;
        }
    }

    /** The ROWS of the TOUCH. */
    private static final class Ringing {
        private final int[] rows = new int[MOST_LEADS * MOST_CHANGES + 1];
        private int last = 0;
        private int many = BELLS_AT_FIRST;
        private final RowTable seen = new RowTable();

        void ring(Setting setting, Leads leads) {
            many = leads.many;
            last = 0;
            rows[0] = leads.rounds;
            for (int lead = 0; lead < setting.leadCount; lead++) {
                for (int i = 0; i < leads.size - 1; i++) {
                    add(leads.steps[i]);
                }
                if (leads.size > 0) {
                    add(leads.endOf(setting.letters[lead]));
                }
            }
        }

        private void add(int step) {
            if (last + 1 < rows.length) {
                rows[last + 1] = Rows.stepped(rows[last], step);
                last++;
            }
        }

        boolean has(int i) {
            return i >= 0 && i <= last;
        }

        int rowAt(int i) {
            return has(i) ? rows[i] : NO_ROW;
        }

        int falseRows() {
            int falseOnes = 0;
            seen.empty(last);
            for (int i = 1; i <= last; i++) {
                if (!seen.put(rows[i], 0)) {
                    falseOnes++;
                }
            }
            return falseOnes;
        }

        int firstFalse() {
            seen.empty(last);
            for (int i = 1; i <= last; i++) {
                if (!seen.put(rows[i], 0)) {
                    return i;
                }
            }
            return NONE;
        }

        int comesRoundAt() {
            for (int i = 1; i <= last; i++) {
                if (rows[i] == rows[0]) {
                    return i;
                }
            }
            return NONE;
        }

        int likedRows() {
            int liked = 0;
            for (int i = 1; i <= last; i++) {
                if (Rows.liked(rows[i], many)) {
                    liked++;
                }
            }
            return liked;
        }

        int placesEverOf(int bell) {
            int places = 0;
            for (int i = 1; i <= last; i++) {
                places |= 1 << Rows.placeOf(bell, rows[i], many);
            }
            return Integer.bitCount(places);
        }

        int timesFirst(int bell) {
            int times = 0;
            for (int i = 1; i <= last; i++) {
                if (Rows.bellAt(1, rows[i]) == bell) {
                    times++;
                }
            }
            return times;
        }

        int longestStay(int bell) {
            int most = 0;
            int stay = 0;
            int placeBefore = 0;
            for (int i = 0; i <= last; i++) {
                int place = Rows.placeOf(bell, rows[i], many);
                stay = place == placeBefore ? stay + 1 : 1;
                most = Math.max(most, stay);
                placeBefore = place;
            }
            return most;
        }
    }

    /** The NUMBERS of the FALSE HEADS, rising; kept until they are forgotten. */
    private static final class FalseHeads {
        private final int[] plainRows = new int[MOST_CHANGES];
        private final int[] numbers = new int[MOST_CHANGES * MOST_CHANGES];
        private int size = 0;
        private boolean known = false;

        void forget() {
            known = false;
        }

        int numberAt(int i) {
            return i >= 0 && i < size ? numbers[i] : NONE;
        }

        /** A LEAD from H has PLAIN ROW b at PLAIN ROW a, if through makes b of H and a: so there is one H for each a, b. */
        void collect(Leads leads) {
            if (known) {
                return;
            }
            known = true;
            size = 0;
            ringPlainRows(leads);
            for (int a = 0; a < leads.size; a++) {
                for (int b = 0; b < leads.size; b++) {
                    int head = Rows.back(plainRows[b], plainRows[a], leads.many);
                    if (Rows.bellAt(1, head) == 1) {
                        keep(Rows.number(head, leads.many));
                    }
                }
            }
        }

        private void ringPlainRows(Leads leads) {
            int row = leads.rounds;
            for (int i = 0; i < leads.size; i++) {
                plainRows[i] = row;
                row = Rows.stepped(row, leads.steps[i]);
            }
        }

        private void keep(int number) {
            int at = firstNotBelow(number);
            if (size >= numbers.length || at < size && numbers[at] == number) {
                return;
            }
            System.arraycopy(numbers, at, numbers, at + 1, size - at);
            numbers[at] = number;
            size++;
        }

        private int firstNotBelow(int number) {
            int low = 0;
            int high = size;
            for (int halvings = 0; halvings < 32 && low < high; halvings++) {
                int middle = (low + high) / 2;
                if (numbers[middle] < number) {
                    low = middle + 1;
                } else {
                    high = middle;
                }
            }
            return low;
        }
    }

    /** Which ROWS LEADS can bring, the fewest LEADS first, of as many the first by p, b, s. */
    private static final class Search {
        /** The tag of ROUNDS; all other ROWS have the letter of the LEAD that brought them first. */
        private static final int BEGINNING = KINDS;

        private final RowTable found = new RowTable();
        private int[] queue = new int[1];
        private int size = 0;
        /** The letters of the last search; 0: there is none that still holds. */
        private int lettersFound = 0;
        /** How many ROWS each set of letters reaches; 0: it is not known. */
        private final int[] reachedCounts = new int[ALL_KINDS + 1];

        void forget() {
            lettersFound = 0;
            for (int letters = 0; letters <= ALL_KINDS; letters++) {
                reachedCounts[letters] = 0;
            }
        }

        int rowsReached(Leads leads, int letters) {
            if (letters < 0 || letters > ALL_KINDS) {
                return 0;
            }
            if (reachedCounts[letters] == 0) {
                find(leads, letters);
                reachedCounts[letters] = size;
            }
            return reachedCounts[letters];
        }

        int fewestLeads(Leads leads, int row) {
            if (lettersFound != ALL_KINDS) {
                find(leads, ALL_KINDS);
            }
            int at = row;
            for (int back = 0; back < size; back++) {
                int letter = found.tagOf(at);
                if (letter == BEGINNING) {
                    return back;
                }
                if (letter == NONE) {
                    return NONE;
                }
                at = leads.ahead(at, letter);
            }
            return NONE;
        }

        /** The letter of a LEAD on the way to a ROW, told from the last one (0) back; fewestLeads comes first. */
        int letterFromEnd(Leads leads, int row, int back) {
            int at = row;
            for (int i = 0; i < back; i++) {
                at = leads.ahead(at, found.tagOf(at));
            }
            return found.tagOf(at);
        }

        private void find(Leads leads, int letters) {
            int most = Rows.howMany(leads.many);
            if (queue.length < most) {
                queue = new int[most];
            }
            found.empty(most);
            size = 0;
            lettersFound = letters;
            add(leads.rounds, BEGINNING);
            for (int i = 0; i < size && i < queue.length; i++) {
                int body = Rows.through(queue[i], leads.body, leads.many);
                for (int letter = 0; letter < KINDS; letter++) {
                    if ((letters >> letter & 1) == 1) {
                        add(Rows.stepped(body, leads.endOf(letter)), letter);
                    }
                }
            }
        }

        private void add(int row, int tag) {
            if (size < queue.length && found.put(row, tag)) {
                queue[size] = row;
                size++;
            }
        }
    }

    /**
     * The LONGEST TOUCH of few LEADS. All TOUCHES stand in a tree: node 0 has no LEAD, and nodes 3m + 1, 3m + 2,
     * 3m + 3 have one LEAD more than node m, p, b, s. So as many LEADS stand together, the first TOUCH first.
     */
    private static final class Longest {
        private static final int NODES = 1 + 3 + 9 + 27 + 81 + 243;

        /** The ROW at the end of each TOUCH. */
        private final int[] ends = new int[NODES];
        private final RowTable rung = new RowTable();

        /** The node of the LONGEST of n; 0: there is none. As all LEADS are equally long, most LEADS are most CHANGES. */
        int find(Leads leads, int n) {
            int beyond = Math.min(firstOfDepth(n + 1), NODES);
            growTo(beyond, leads);
            for (int depth = n; depth >= 1; depth--) {
                int first = firstOfDepth(depth);
                for (int node = first; node < beyond; node++) {
                    if (ends[node] == leads.rounds && isTrue(node, leads)) {
                        return node;
                    }
                }
                beyond = first;
            }
            return 0;
        }

        int depthOf(int node) {
            int at = node;
            int depth = 0;
            while (at > 0 && depth < LEADS_OF_LONGEST) {
                at = parentOf(at);
                depth++;
            }
            return depth;
        }

        /** The letter of a LEAD, told from the last one (0) back. */
        int letterFromEnd(int node, int back) {
            int at = node;
            for (int i = 0; i < back; i++) {
                at = parentOf(at);
            }
            return letterOf(at);
        }

        private void growTo(int beyond, Leads leads) {
            ends[0] = leads.rounds;
            for (int node = 1; node < beyond; node++) {
                ends[node] = leads.after(ends[parentOf(node)], letterOf(node));
            }
        }

        /** The ends of the LEADS go first, for most false TOUCHES show at them. */
        private boolean isTrue(int node, Leads leads) {
            rung.empty(LEADS_OF_LONGEST * MOST_CHANGES);
            int depth = depthOf(node);
            int at = node;
            for (int i = 0; i < depth; i++) {
                if (!rung.put(ends[at], 0)) {
                    return false;
                }
                at = parentOf(at);
            }
            at = node;
            for (int i = 0; i < depth; i++) {
                at = parentOf(at);
                if (!insideIsNew(ends[at], leads)) {
                    return false;
                }
            }
            return true;
        }

        private boolean insideIsNew(int first, Leads leads) {
            int row = first;
            for (int i = 0; i < leads.size - 1; i++) {
                row = Rows.stepped(row, leads.steps[i]);
                if (!rung.put(row, 0)) {
                    return false;
                }
            }
            return true;
        }

        private static int firstOfDepth(int depth) {
            int first = 0;
            for (int i = 0; i < depth; i++) {
                first = KINDS * first + 1;
            }
            return first;
        }

        private static int parentOf(int node) {
            return (node - 1) / KINDS;
        }

        private static int letterOf(int node) {
            return (node - 1) % KINDS;
        }
    }
}
