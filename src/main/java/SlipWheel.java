/** A book to which a wheel of cells adds words in turn. The document's numbered promises tell each call's answers. */
public final class SlipWheel {
    public static final int BAD = -1, NOT = -2, FULL = -3, NONE = -4, NULL = -11, CAST = -12, INDEX = -13, SIZE = -14;

    private static final int FAULT = -20;
    private static final int WORDS = 8, ALL_WORDS = 255;
    private static final int MOST_LINES = 6, LONGEST_LINE = 4, LONGEST_BLIND_LINE = 2;
    private static final int MOST_CELLS = 6, MOST_WEIGHT = 9;
    private static final int MAD = 1, BLIND = 2, MUTE = 3;
    private static final int MOST_PLACES = 60, MOST_TEXT_WORDS = 24, MOST_TAPE = 80;
    private static final int MOST_TURNS = 30, MOST_SOON = 5, LONGEST_REACH = 3, LONGEST_PSALM = 6;
    private static final int SHEETS = 4, LANES = 3, MOST_ITEMS = 24, MOST_WAYS = 12;
    private static final int EMPTY_SLIP = 1, LONG_SLIP = 512, SLIP_CODES = 1024, SLIPS = 585;

    private final Everything now = new Everything();
    private final Everything kept = new Everything();
    private final Tape tape = new Tape();
    private final Sheet[] sheets = new Sheet[SHEETS];
    private final Search search = new Search();
    private final int[] seatSets = new int[MOST_CELLS];
    private boolean hasImage;

    public SlipWheel() {
        for (int i = 0; i < sheets.length; i++) {
            sheets[i] = new Sheet();
        }
    }

    // ---- 1 the tongue, cells

    public int follow(int word, int set) {
        if (!isWord(word) || set < 0 || set > ALL_WORDS) {
            return BAD;
        }
        return now.tongue.changeFollowing(word, set);
    }

    public int line(int words, int n) {
        if (!isRowOfWords(words, n, LONGEST_LINE)) {
            return BAD;
        }
        return now.tongue.appendLine(words, n);
    }

    public int cell(int kind) {
        if (kind < 0 || kind > MUTE) {
            return BAD;
        }
        int cell = now.cells.append(kind);
        if (cell >= 0) {
            now.wheel.takeSeat(cell);
        }
        return cell;
    }

    public int weight(int cell, int word, int v) {
        if (!now.cells.has(cell) || !isWord(word) || v < 0 || v > MOST_WEIGHT) {
            return BAD;
        }
        return now.cells.changeWeight(cell, word, v);
    }

    public int dead(int cell, boolean is) {
        if (!now.cells.has(cell)) {
            return BAD;
        }
        return bit(now.cells.changeDead(cell, is));
    }

    public int swap(int one, int other) {
        if (!now.cells.has(one) || !now.cells.has(other) || one == other) {
            return BAD;
        }
        now.wheel.changeSeats(one, other);
        return now.wheel.seatOf(one);
    }

    public int turn(boolean backwards) {
        boolean was = now.wheel.backwards;
        now.wheel.backwards = backwards;
        return bit(was);
    }

    public int told(int cell, int what) {
        if (!now.cells.has(cell) || what < 0 || what > 2 + WORDS) {
            return BAD;
        }
        switch (what) {
            case 0:
                return now.cells.kindOf(cell);
            case 1:
                return now.wheel.seatOf(cell);
            case 2:
                return bit(!now.cells.isAlive(cell));
            default:
                return now.cells.weightOf(cell, what - 3);
        }
    }

    public int type(long w, int n) {
        if (n < 1 || n > 8 || !Tape.canHold(w, n)) {
            return BAD;
        }
        return tape.append(w, n);
    }

    public int tongue() {
        int told = tape.parseTongue();
        for (int word = 0; word < told; word++) {
            now.tongue.changeFollowing(word, tape.parsedAt(word));
        }
        tape.length = 0;
        return told;
    }

    public int book() {
        int told = tape.parseBook();
        if (told >= 0) {
            now.pages.length = 0;
        }
        for (int place = 0; place < told; place++) {
            now.pages.append(tape.parsedAt(place), NONE);
        }
        tape.length = 0;
        return told;
    }

    public int count(int what) {
        switch (what) {
            case 0:
                return now.cells.number;
            case 1:
                return Integer.bitCount(now.cells.living());
            case 2:
                return now.pages.length;
            case 3:
                return now.tongue.lines;
            case 4:
                return now.pages.known();
            case 5:
                return bit(now.tongue.mayCome(now.pages.slip(), LONGEST_LINE) == 0);
            case 6:
                return now.wheel.cellOn(now.wheel.seatOfTurn());
            case 7:
                return now.wheel.turns;
            default:
                return BAD;
        }
    }

    // ---- 2 the wheel

    public int read(int place, int what) {
        if (!now.pages.has(place) || what < 0 || what > 1) {
            return BAD;
        }
        return what == 0 ? now.pages.wordAt(place) : now.pages.writerAt(place);
    }

    public int come(int cell) {
        if (!now.cells.has(cell)) {
            return BAD;
        }
        return now.canCome(cell, now.pages.slip());
    }

    public int odds(int cell, int word, int part) {
        if (!now.cells.has(cell) || !isWord(word) || part < 0 || part > 1) {
            return BAD;
        }
        int set = now.canCome(cell, now.pages.slip());
        if (!holds(set, word)) {
            return NONE;
        }
        int above = now.cells.weightOf(cell, word);
        int below = now.cells.weightOfSet(cell, set);
        int common = commonDivisor(above, below);
        int told = part == 0 ? above : below;
        return common > 0 ? told / common : told;
    }

    public int add(int word) {
        if (!isWord(word)) {
            return BAD;
        }
        int cell = now.wheel.cellOn(now.wheel.seatOfTurn());
        if (cell < 0) {
            return NONE;
        }
        if (now.pages.isFull()) {
            return FULL;
        }
        if (!holds(now.canCome(cell, now.pages.slip()), word)) {
            return NOT;
        }
        now.pages.append(word, cell);
        now.wheel.goOn();
        return cell;
    }

    public int draw(int n) {
        if (n < 1 || n > MOST_PLACES) {
            return BAD;
        }
        if (now.wheel.seatOfTurn() < 0) {
            return NONE;
        }
        int before = now.pages.length;
        for (int i = 0; i < n; i++) {
            now.addDrawnWord();
            now.wheel.goOn();
        }
        return now.pages.length - before;
    }

    public int seed(int v) {
        if (v < 0) {
            return BAD;
        }
        int was = now.lot;
        now.lot = v;
        return was;
    }

    public int undo(int n) {
        if (n < 1 || n > MOST_PLACES) {
            return BAD;
        }
        if (n > now.pages.length) {
            return NOT;
        }
        now.pages.length -= n;
        return now.pages.length;
    }

    public int reach(int words, int n) {
        if (!isRowOfWords(words, n, LONGEST_REACH)) {
            return BAD;
        }
        return search.fewestTurns(now, words, n);
    }

    public int end() {
        return search.fewestTurns(now, 0, Search.TO_THE_END);
    }

    public int soon(int word, int n) {
        if (!isWord(word) || n < 1 || n > MOST_SOON) {
            return BAD;
        }
        int seat = now.wheel.seatOfTurn();
        return seat < 0 ? NONE : soonWithin(now, seat, now.pages.slip(), word, n);
    }

    // ---- 3 who, where, what if

    public int forget(int place) {
        if (!now.pages.has(place)) {
            return BAD;
        }
        int writer = now.pages.writerAt(place);
        if (writer < 0) {
            return NOT;
        }
        now.pages.forgetWriter(place);
        return writer;
    }

    public int habit(int cell, int word) {
        if (!now.cells.has(cell) || !isWord(word)) {
            return BAD;
        }
        return now.pages.habitOf(cell, word);
    }

    public int guess(int place) {
        if (!now.pages.has(place)) {
            return BAD;
        }
        if (now.pages.writerAt(place) >= 0) {
            return NOT;
        }
        return now.likeliestWriter(now.pages.wordAt(place));
    }

    public int prevented(int what) {
        if (what < 0 || what > 1) {
            return BAD;
        }
        int last = now.firstLineEnd();
        if (last < 0) {
            return NONE;
        }
        return what == 0 ? last : now.preventers(last);
    }

    public int seated(int words, int n, int k) {
        int seats = Integer.bitCount(now.cells.living());
        if (!isRowOfWords(words, n, LONGEST_PSALM) || k < -1 || k >= seats) {
            return BAD;
        }
        if (seats == 0) {
            return NONE;
        }
        findSeatSets(words, n, seats);
        int orders = ordersFrom(seatSets, seats, 0, 0);
        if (orders == 0) {
            return NONE;
        }
        return k < 0 ? orders : cellOfFirstOrder(seats, k);
    }

    public int image() {
        kept.copyFrom(now);
        hasImage = true;
        return 1;
    }

    public int restore() {
        if (!hasImage) {
            return NONE;
        }
        now.copyFrom(kept);
        return 1;
    }

    // ---- 4 sheets

    public int ways(int sheet, int lane, int from, int n) {
        if (!isSheetAndLane(sheet, lane) || n < 1 || n > MOST_WAYS) {
            return BAD;
        }
        Sheet row = sheets[sheet];
        int refusal = row.refusalOf(lane, from, n);
        if (refusal < 0) {
            return refusal;
        }
        for (int i = from; i < from + n; i++) {
            if (!now.cells.isAlive(row.itemAt(i))) {
                return NOT;
            }
        }
        return fewestChanges(row, from, n);
    }

    public int differ(int place, int sheet, int lane, int from, int n) {
        if (place < 0 || place > MOST_PLACES || !isSheetAndLane(sheet, lane) || n < 1 || n > MOST_ITEMS) {
            return BAD;
        }
        Sheet row = sheets[sheet];
        int refusal = row.refusalOf(lane, from, n);
        if (refusal < 0) {
            return refusal;
        }
        int differing = 0;
        for (int i = 0; i < n; i++) {
            // The item could happen to be what wordAt answers beyond the end, so the place is asked for first.
            if (!now.pages.has(place + i) || row.itemAt(from + i) != now.pages.wordAt(place + i)) {
                differing++;
            }
        }
        return differing;
    }

    public int sheet(int sheet, int lane, int n) {
        if (!isSheetAndLane(sheet, lane) || n > MOST_ITEMS) {
            return BAD;
        }
        if (n < 0) {
            return SIZE;
        }
        sheets[sheet].begin(lane, n);
        return n;
    }

    public int drop(int sheet) {
        if (!isSheetAndLane(sheet, 0)) {
            return BAD;
        }
        return sheets[sheet].letGo();
    }

    public int item(int sheet, int lane, int i, int v) {
        if (!isSheetAndLane(sheet, lane)) {
            return BAD;
        }
        int refusal = sheets[sheet].refusalOf(lane, i, 1);
        if (refusal < 0) {
            return refusal;
        }
        sheets[sheet].put(i, v);
        return 1;
    }

    public int film(int place, int n, int sheet, int lane, int from) {
        if (!isSheetAndLane(sheet, lane) || n < 1 || n > MOST_ITEMS || !now.pages.hasRow(place, n)) {
            return BAD;
        }
        int refusal = sheets[sheet].refusalOf(lane, from, n);
        if (refusal < 0) {
            return refusal;
        }
        for (int i = 0; i < n; i++) {
            sheets[sheet].put(from + i, now.pages.wordAt(place + i));
        }
        return n;
    }

    // ---- what the calls share

    private static boolean isWord(int word) {
        return word >= 0 && word < WORDS;
    }

    private static boolean isRowOfWords(int words, int n, int longest) {
        return n >= 1 && n <= longest && words >= 0 && words < (1 << (3 * n));
    }

    private static boolean isSheetAndLane(int sheet, int lane) {
        return sheet >= 0 && sheet < SHEETS && lane >= 0 && lane < LANES;
    }

    private static boolean holds(int set, int member) {
        return ((set >> member) & 1) != 0;
    }

    private static int bit(boolean is) {
        return is ? 1 : 0;
    }

    private static int commonDivisor(int one, int other) {
        // Weights come to 72 at the most, so trying downwards is short and its end is plain.
        for (int divisor = Math.min(one, other); divisor > 1; divisor--) {
            if (one % divisor == 0 && other % divisor == 0) {
                return divisor;
            }
        }
        return 1;
    }

    // A slip is the last three words as digits of eight behind a leading 1, which tells how many words there are.
    private static int slipWith(int slip, int word) {
        int longer = slip * WORDS + word;
        return longer < SLIP_CODES ? longer : LONG_SLIP + (longer & (LONG_SLIP - 1));
    }

    private static boolean slipEndsWith(int slip, int words, int n) {
        int leading = 1 << (3 * n);
        return slip >= leading && (slip & (leading - 1)) == words;
    }

    private static int soonWithin(Everything all, int seat, int slip, int word, int n) {
        if (n < 1 || n > MOST_SOON) {
            return 0;
        }
        int cell = all.wheel.cellOn(seat);
        int next = all.wheel.seatBehind(seat);
        int set = all.canCome(cell, slip);
        if (set == 0) {
            return soonWithin(all, next, slip, word, n - 1);
        }
        int together = 0;
        int weights = 0;
        for (int other = 0; other < WORDS; other++) {
            if (holds(set, other)) {
                int worth = other == word ? 1000 : soonWithin(all, next, slipWith(slip, other), word, n - 1);
                int weight = all.cells.weightOf(cell, other);
                together += weight * worth;
                weights += weight;
            }
        }
        return weights > 0 ? together / weights : 0;
    }

    // With fewer seats than words a cell has several turns: it must be able to add at each of them.
    private void findSeatSets(int words, int n, int seats) {
        int living = now.cells.living();
        for (int seat = 0; seat < seatSets.length; seat++) {
            seatSets[seat] = living;
        }
        int slip = now.pages.slip();
        for (int i = 0; i < n; i++) {
            int word = (words >> (3 * (n - 1 - i))) & 7;
            int seat = seats > 0 ? i % seats : 0;
            if (seat >= 0 && seat < seatSets.length) {
                seatSets[seat] &= now.cellsThatCanAdd(word, slip);
            }
            slip = slipWith(slip, word);
        }
    }

    private static int ordersFrom(int[] seatSets, int seats, int seat, int used) {
        if (seat < 0 || seat >= seats || seat >= seatSets.length) {
            return 1;
        }
        int orders = 0;
        for (int cell = 0; cell < MOST_CELLS; cell++) {
            if (holds(seatSets[seat] & ~used, cell)) {
                orders += ordersFrom(seatSets, seats, seat + 1, used | (1 << cell));
            }
        }
        return orders;
    }

    private int cellOfFirstOrder(int seats, int k) {
        int used = 0;
        for (int seat = 0; seat < k; seat++) {
            used |= 1 << firstCellFor(seats, seat, used);
        }
        return firstCellFor(seats, k, used);
    }

    private int firstCellFor(int seats, int seat, int used) {
        if (seat < 0 || seat >= seatSets.length) {
            return 0;
        }
        int free = seatSets[seat] & ~used;
        for (int cell = 0; cell < MOST_CELLS; cell++) {
            if (holds(free, cell) && ordersFrom(seatSets, seats, seat + 1, used | (1 << cell)) > 0) {
                return cell;
            }
        }
        return 0;
    }

    private int fewestChanges(Sheet row, int from, int n) {
        int never = MOST_WAYS + 1;
        int forwards = 0;
        int backwards = 0;
        for (int i = from + 1; i < from + n; i++) {
            int seat = now.wheel.seatOf(row.itemAt(i - 1));
            int next = now.wheel.seatOf(row.itemAt(i));
            boolean isBehind = now.wheel.livingSeatPast(seat, 1) == next;
            boolean isAhead = now.wheel.livingSeatPast(seat, -1) == next;
            int nowForwards = isBehind ? Math.min(forwards, backwards + 1) : never;
            backwards = isAhead ? Math.min(backwards, forwards + 1) : never;
            forwards = nowForwards;
        }
        int fewest = Math.min(forwards, backwards);
        return fewest < never ? fewest : NONE;
    }

    /** Which words may follow which, and the lines that must not stand. */
    private static final class Tongue {
        private final int[] following = new int[WORDS];
        private final int[] lineWords = new int[MOST_LINES];
        private final int[] lineLengths = new int[MOST_LINES];
        private int lines;

        private Tongue() {
            for (int word = 0; word < following.length; word++) {
                following[word] = ALL_WORDS;
            }
        }

        private void copyFrom(Tongue other) {
            System.arraycopy(other.following, 0, following, 0, WORDS);
            System.arraycopy(other.lineWords, 0, lineWords, 0, MOST_LINES);
            System.arraycopy(other.lineLengths, 0, lineLengths, 0, MOST_LINES);
            lines = other.lines;
        }

        private int changeFollowing(int word, int set) {
            if (word < 0 || word >= following.length) {
                return BAD;
            }
            int was = following[word];
            following[word] = set;
            return was;
        }

        private int appendLine(int words, int n) {
            if (lines < 0 || lines >= MOST_LINES) {
                return FULL;
            }
            lineWords[lines] = words;
            lineLengths[lines] = n;
            lines++;
            return lines - 1;
        }

        private int mayCome(int slip, int longestLine) {
            int set = slip < WORDS ? ALL_WORDS : following[slip & 7];
            for (int i = 0; i < lines && i < MOST_LINES; i++) {
                int ahead = lineLengths[i] - 1;
                if (ahead < longestLine && slipEndsWith(slip, lineWords[i] >> 3, ahead)) {
                    set &= ~(1 << (lineWords[i] & 7));
                }
            }
            return set;
        }

        /** The first line that ends a row of words, given its last four and how many it has; below 0: none does. */
        private int lineAtEndOf(int lastFour, int length) {
            for (int i = 0; i < lines && i < MOST_LINES; i++) {
                int mask = (1 << (3 * lineLengths[i])) - 1;
                if (length >= lineLengths[i] && (lastFour & mask) == lineWords[i]) {
                    return i;
                }
            }
            return NONE;
        }

        private int lengthOfLine(int line) {
            return line >= 0 && line < MOST_LINES ? lineLengths[line] : 0;
        }
    }

    /** The cells by their numbers, wherever they sit. */
    private static final class Cells {
        private final int[] kinds = new int[MOST_CELLS];
        private final boolean[] isDead = new boolean[MOST_CELLS];
        private final int[] weights = new int[MOST_CELLS * WORDS];
        private int number;

        private Cells() {
            for (int i = 0; i < weights.length; i++) {
                weights[i] = 1;
            }
        }

        private void copyFrom(Cells other) {
            for (int cell = 0; cell < MOST_CELLS; cell++) {
                kinds[cell] = other.kinds[cell];
                isDead[cell] = other.isDead[cell];
            }
            System.arraycopy(other.weights, 0, weights, 0, MOST_CELLS * WORDS);
            number = other.number;
        }

        private boolean has(int cell) {
            return cell >= 0 && cell < number && cell < MOST_CELLS;
        }

        private int append(int kind) {
            if (number < 0 || number >= MOST_CELLS) {
                return FULL;
            }
            // All else about a cell not made yet is as at first: an image keeps and brings back those rows too.
            kinds[number] = kind;
            number++;
            return number - 1;
        }

        private int kindOf(int cell) {
            return has(cell) ? kinds[cell] : MUTE;
        }

        private boolean isAlive(int cell) {
            return has(cell) && !isDead[cell];
        }

        private boolean changeDead(int cell, boolean is) {
            if (!has(cell)) {
                return false;
            }
            boolean was = isDead[cell];
            isDead[cell] = is;
            return was;
        }

        private int living() {
            int set = 0;
            for (int cell = 0; cell < MOST_CELLS; cell++) {
                if (isAlive(cell)) {
                    set |= 1 << cell;
                }
            }
            return set;
        }

        private int weightOf(int cell, int word) {
            return has(cell) && isWord(word) ? weights[cell * WORDS + word] : 0;
        }

        private int changeWeight(int cell, int word, int weight) {
            if (!has(cell) || !isWord(word)) {
                return BAD;
            }
            int was = weights[cell * WORDS + word];
            weights[cell * WORDS + word] = weight;
            return was;
        }

        private int weightOfSet(int cell, int set) {
            int sum = 0;
            for (int word = 0; word < WORDS; word++) {
                if (holds(set, word)) {
                    sum += weightOf(cell, word);
                }
            }
            return sum;
        }

        private int weightedWords(int cell) {
            int set = 0;
            for (int word = 0; word < WORDS && has(cell); word++) {
                if (weights[cell * WORDS + word] > 0) {
                    set |= 1 << word;
                }
            }
            return set;
        }
    }

    /** The seats, and whose turn it is. */
    private static final class Wheel {
        private final Cells cells;
        private final int[] onSeat = new int[MOST_CELLS];
        private int standing;
        private int turns;
        private boolean backwards;

        private Wheel(Cells cells) {
            this.cells = cells;
        }

        private void copyFrom(Wheel other) {
            System.arraycopy(other.onSeat, 0, onSeat, 0, MOST_CELLS);
            standing = other.standing;
            turns = other.turns;
            backwards = other.backwards;
        }

        private void takeSeat(int cell) {
            if (cell >= 0 && cell < MOST_CELLS) {
                onSeat[cell] = cell;
            }
        }

        private int cellOn(int seat) {
            return cells.has(seat) ? onSeat[seat] : NONE;
        }

        private int seatOf(int cell) {
            for (int seat = 0; seat < MOST_CELLS; seat++) {
                if (cellOn(seat) == cell) {
                    return seat;
                }
            }
            return NONE;
        }

        private void changeSeats(int one, int other) {
            int seat = seatOf(one);
            int otherSeat = seatOf(other);
            if (cells.has(seat) && cells.has(otherSeat)) {
                onSeat[seat] = other;
                onSeat[otherSeat] = one;
            }
        }

        private int seatOfTurn() {
            return cells.isAlive(cellOn(standing)) ? standing : seatBehind(standing);
        }

        private int seatBehind(int seat) {
            return livingSeatPast(seat, backwards ? -1 : 1);
        }

        /** The nearest seat past this one whose cell lives; it comes to this one itself last. */
        private int livingSeatPast(int seat, int step) {
            int seats = cells.number;
            for (int i = 1; i <= seats; i++) {
                int other = seats > 0 ? Math.floorMod(seat + i * step, seats) : 0;
                if (cells.isAlive(cellOn(other))) {
                    return other;
                }
            }
            return NONE;
        }

        private void goOn() {
            standing = seatBehind(seatOfTurn());
            turns++;
        }
    }

    /** The book: its words and who wrote them. */
    private static final class Pages {
        private final int[] words = new int[MOST_PLACES];
        private final int[] writers = new int[MOST_PLACES];
        private int length;

        private void copyFrom(Pages other) {
            System.arraycopy(other.words, 0, words, 0, MOST_PLACES);
            System.arraycopy(other.writers, 0, writers, 0, MOST_PLACES);
            length = other.length;
        }

        private boolean isFull() {
            return length >= MOST_PLACES;
        }

        private boolean has(int place) {
            return place >= 0 && place < length && place < MOST_PLACES;
        }

        private boolean hasRow(int place, int n) {
            return place >= 0 && place <= length - n;
        }

        private void append(int word, int writer) {
            if (length >= 0 && length < MOST_PLACES) {
                words[length] = word;
                writers[length] = writer;
                length++;
            }
        }

        private int wordAt(int place) {
            return has(place) ? words[place] : NONE;
        }

        private int writerAt(int place) {
            return has(place) ? writers[place] : NONE;
        }

        private void forgetWriter(int place) {
            if (has(place)) {
                writers[place] = NONE;
            }
        }

        private int known() {
            int known = 0;
            for (int place = 0; place < length; place++) {
                if (writerAt(place) >= 0) {
                    known++;
                }
            }
            return known;
        }

        private int habitOf(int cell, int word) {
            int times = 0;
            for (int place = 0; place < length; place++) {
                if (writerAt(place) == cell && wordAt(place) == word) {
                    times++;
                }
            }
            return times;
        }

        private int slip() {
            return slipAheadOf(length);
        }

        private int slipAheadOf(int place) {
            int slip = EMPTY_SLIP;
            for (int i = Math.max(0, place - 3); i < place; i++) {
                slip = slipWith(slip, wordAt(i));
            }
            return slip;
        }
    }

    /** All that an image keeps. */
    private static final class Everything {
        private final Tongue tongue = new Tongue();
        private final Cells cells = new Cells();
        private final Wheel wheel = new Wheel(cells);
        private final Pages pages = new Pages();
        private int lot = 1;

        private void copyFrom(Everything other) {
            tongue.copyFrom(other.tongue);
            cells.copyFrom(other.cells);
            wheel.copyFrom(other.wheel);
            pages.copyFrom(other.pages);
            lot = other.lot;
        }

        private int canCome(int cell, int slip) {
            switch (cells.kindOf(cell)) {
                case MUTE:
                    return 0;
                case MAD:
                    return cells.weightedWords(cell);
                case BLIND:
                    return cells.weightedWords(cell) & tongue.mayCome(slip, LONGEST_BLIND_LINE);
                default:
                    return cells.weightedWords(cell) & tongue.mayCome(slip, LONGEST_LINE);
            }
        }

        private int cellsThatCanAdd(int word, int slip) {
            int set = 0;
            for (int cell = 0; cell < MOST_CELLS; cell++) {
                if (holds(canCome(cell, slip), word)) {
                    set |= 1 << cell;
                }
            }
            return set;
        }

        private boolean hasEnded(int slip) {
            for (int cell = 0; cell < MOST_CELLS; cell++) {
                if (cells.isAlive(cell) && canCome(cell, slip) != 0) {
                    return false;
                }
            }
            return true;
        }

        private void addDrawnWord() {
            int cell = wheel.cellOn(wheel.seatOfTurn());
            int set = canCome(cell, pages.slip());
            if (set != 0 && !pages.isFull()) {
                pages.append(drawnWord(cell, set), cell);
            }
        }

        private int drawnWord(int cell, int set) {
            // The low 31 bits come out right although the product wraps.
            lot = (lot * 1103515245 + 12345) & 0x7fffffff;
            int weights = cells.weightOfSet(cell, set);
            int ahead = weights > 0 ? (lot >> 16) % weights : 0;
            int word = 0;
            for (int other = 0; other < WORDS && ahead >= 0; other++) {
                if (holds(set, other)) {
                    ahead -= cells.weightOf(cell, other);
                    word = other;
                }
            }
            return word;
        }

        private int likeliestWriter(int word) {
            int likeliest = NONE;
            int most = -1;
            for (int cell = 0; cell < cells.number; cell++) {
                int likelihood = likelihoodOf(cell, word);
                if (cells.kindOf(cell) != MUTE && likelihood > most) {
                    likeliest = cell;
                    most = likelihood;
                }
            }
            return likeliest;
        }

        private int likelihoodOf(int cell, int word) {
            int habits = 0;
            for (int other = 0; other < WORDS; other++) {
                habits += pages.habitOf(cell, other);
            }
            int divisor = habits + 8;
            return divisor > 0 ? 16 * (pages.habitOf(cell, word) + 1) / divisor : 0;
        }

        private int lineEndingAt(int place) {
            int lastFour = 0;
            for (int i = Math.max(0, place + 1 - LONGEST_LINE); i <= place; i++) {
                lastFour = lastFour * WORDS + pages.wordAt(i);
            }
            return tongue.lineAtEndOf(lastFour, place + 1);
        }

        private int firstLineEnd() {
            for (int place = 0; place < pages.length; place++) {
                if (lineEndingAt(place) >= 0) {
                    return place;
                }
            }
            return NONE;
        }

        private int preventers(int last) {
            int length = tongue.lengthOfLine(lineEndingAt(last));
            int set = 0;
            for (int place = last + 1 - length; place <= last; place++) {
                int writer = pages.writerAt(place);
                if (writer >= 0 && couldHaveWrittenElse(writer, place)) {
                    set |= 1 << writer;
                }
            }
            return set;
        }

        private boolean couldHaveWrittenElse(int cell, int place) {
            int written = 1 << pages.wordAt(place);
            return (canCome(cell, pages.slipAheadOf(place)) & ~written) != 0;
        }
    }

    /** What could stand behind each number of turns, each slip with each seat of the turn looked at once. */
    private static final class Search {
        private static final int TO_THE_END = 0;

        private final int[] slips = new int[SLIPS * MOST_CELLS];
        private final byte[] seenOnSeats = new byte[SLIP_CODES];
        private int found;

        /** The fewest turns behind which the book can end with n words, or by TO_THE_END can't go on. */
        private int fewestTurns(Everything all, int words, int n) {
            int seat = all.wheel.seatOfTurn();
            if (seat < 0) {
                return NONE;
            }
            found = 0;
            for (int i = 0; i < seenOnSeats.length; i++) {
                seenOnSeats[i] = 0;
            }
            note(all.pages.slip(), seat);
            int first = 0;
            for (int turns = 0; turns <= MOST_TURNS; turns++) {
                int behind = found;
                if (hasAim(all, first, behind, words, n)) {
                    return turns;
                }
                int next = all.wheel.seatBehind(seat);
                for (int i = first; i < behind; i++) {
                    spread(all, slipAt(i), seat, next);
                }
                first = behind;
                seat = next;
            }
            return NONE;
        }

        private boolean hasAim(Everything all, int first, int behind, int words, int n) {
            for (int i = first; i < behind; i++) {
                if (n == TO_THE_END ? all.hasEnded(slipAt(i)) : slipEndsWith(slipAt(i), words, n)) {
                    return true;
                }
            }
            return false;
        }

        private int slipAt(int i) {
            return i >= 0 && i < slips.length ? slips[i] : EMPTY_SLIP;
        }

        private void spread(Everything all, int slip, int seat, int next) {
            int set = all.canCome(all.wheel.cellOn(seat), slip);
            if (set == 0) {
                note(slip, next);
            }
            for (int word = 0; word < WORDS; word++) {
                if (holds(set, word)) {
                    note(slipWith(slip, word), next);
                }
            }
        }

        private void note(int slip, int seat) {
            if (slip < 0 || slip >= SLIP_CODES || found < 0 || found >= slips.length) {
                return;
            }
            if (!holds(seenOnSeats[slip], seat)) {
                seenOnSeats[slip] |= (byte) (1 << seat);
                slips[found] = slip;
                found++;
            }
        }
    }

    /** Bytes typed so far, and what the last text of them said. */
    private static final class Tape {
        private final int[] bytes = new int[MOST_TAPE];
        private final int[] parsed = new int[MOST_TEXT_WORDS];
        private int length;

        private static int byteOf(long w, int fromLowest) {
            return ((int) (w >> (8 * fromLowest))) & 255;
        }

        private static boolean canHold(long w, int n) {
            for (int i = 0; i < n; i++) {
                if (byteOf(w, i) < 32 || byteOf(w, i) > 126) {
                    return false;
                }
            }
            return true;
        }

        private int append(long w, int n) {
            if (length < 0 || length > MOST_TAPE - n) {
                return FULL;
            }
            for (int i = n - 1; i >= 0 && length < MOST_TAPE; i--) {
                bytes[length] = byteOf(w, i);
                length++;
            }
            return length;
        }

        private int parsedAt(int i) {
            return i >= 0 && i < parsed.length ? parsed[i] : 0;
        }

        private void setParsed(int i, int v) {
            if (i >= 0 && i < parsed.length) {
                parsed[i] = v;
            }
        }

        private int parseTongue() {
            int word = 0;
            int leastLetter = 0;
            boolean begun = false;
            setParsed(0, 0);
            for (int i = 0; i < length && i < MOST_TAPE; i++) {
                int letter = bytes[i] - 'a';
                if (bytes[i] == ' ') {
                    continue;
                }
                if (bytes[i] == ';' && begun && word < WORDS - 1) {
                    word++;
                    setParsed(word, 0);
                    leastLetter = 0;
                    begun = false;
                } else if (bytes[i] == '-' && !begun) {
                    leastLetter = WORDS;
                    begun = true;
                } else if (letter >= leastLetter && letter < WORDS) {
                    setParsed(word, parsedAt(word) | (1 << letter));
                    leastLetter = letter + 1;
                    begun = true;
                } else {
                    return FAULT - i;
                }
            }
            return begun ? word + 1 : FAULT - length;
        }

        private int parseBook() {
            int words = 0;
            for (int i = 0; i < length && i < MOST_TAPE; i++) {
                int letter = bytes[i] - 'a';
                if (bytes[i] == ' ') {
                    continue;
                }
                if (!isWord(letter) || words >= MOST_TEXT_WORDS) {
                    return FAULT - i;
                }
                setParsed(words, letter);
                words++;
            }
            return words;
        }
    }

    /** A sheet holds nothing, or a row of a lane. */
    private static final class Sheet {
        private static final int NOTHING = -1, BYTES = 0, SHORTS = 1;

        private final int[] items = new int[MOST_ITEMS];
        private int rowLane = NOTHING;
        private int length;

        private void begin(int lane, int n) {
            rowLane = lane;
            length = n;
            for (int i = 0; i < items.length; i++) {
                items[i] = 0;
            }
        }

        private int letGo() {
            if (rowLane == NOTHING) {
                return NULL;
            }
            rowLane = NOTHING;
            return length;
        }

        /** Why n items from one on can't be had as a row of a lane, or 0. */
        private int refusalOf(int lane, int from, int n) {
            if (rowLane == NOTHING) {
                return NULL;
            }
            if (rowLane != lane) {
                return CAST;
            }
            return from < 0 || from > length - n ? INDEX : 0;
        }

        private int itemAt(int i) {
            return i >= 0 && i < items.length ? items[i] : 0;
        }

        private void put(int i, int v) {
            if (i >= 0 && i < items.length) {
                items[i] = rowLane == BYTES ? (byte) v : rowLane == SHORTS ? (short) v : v;
            }
        }
    }
}
