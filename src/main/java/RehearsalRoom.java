/**
 * One room, many rehearsals: rehearsals with times and fame, a pause between two of them, conflicts,
 * rooms that would be needed, choices without conflicts, bookings that are never in conflict,
 * rehearsals as texts, snapshots and undo. What each call promises stands in ../shared/DOC.md.
 *
 * Every row is made in a constructor and used again: no call makes an object, but for an exception.
 */
public final class RehearsalRoom {

    private static final int QUARTERS = 96;
    private static final int CAPACITY = 14;
    private static final int GREATEST_FAME = 50;
    private static final int LONGEST_PAUSE = 8;
    private static final int LONGEST_TEXT = 60;
    private static final int FIRST_CODE = 33;
    private static final int LAST_CODE = 126;
    private static final int SLOTS = 2;
    private static final int MOST_SAVED = 6;
    private static final long HASH_START = 4327L;

    private final Day day = new Day();
    private final SavedDays saved = new SavedDays();
    private final Day[] snapshots = new Day[SLOTS];
    private final boolean[] taken = new boolean[SLOTS];
    private final Text buffer = new Text();
    private final Rooms rooms = new Rooms();
    private final Choices choices = new Choices();

    public RehearsalRoom() {
        for (int slot = 0; slot < SLOTS; slot++) {
            snapshots[slot] = new Day();
        }
    }

    // ---- rehearsals

    public int add(int begin, int end, int fame) throws IllegalArgumentException, IllegalStateException {
        requireTimes(begin, end);
        requireFame(fame);
        requirePlacesFor(1);
        saved.save(day);
        day.takeOn(begin, end, fame);
        return day.count - 1;
    }

    public int strike(int rehearsal) throws IndexOutOfBoundsException {
        requireRehearsal(rehearsal);
        int fame = day.fames[rehearsal];
        saved.save(day);
        day.takeOut(rehearsal);
        return fame;
    }

    public int move(int rehearsal, int begin, int end)
            throws IndexOutOfBoundsException, IllegalArgumentException, IllegalStateException {
        requireRehearsal(rehearsal);
        requireTimes(begin, end);
        if (day.hasBooked(rehearsal) && !day.bookingsAllow(rehearsal, begin, end)) {
            throw new IllegalStateException("in conflict with a booked rehearsal");
        }
        int quarters = day.quartersOf(rehearsal);
        saved.save(day);
        day.begins[rehearsal] = begin;
        day.ends[rehearsal] = end;
        return day.quartersOf(rehearsal) - quarters;
    }

    public int changeFame(int rehearsal, int fame) throws IndexOutOfBoundsException, IllegalArgumentException {
        requireRehearsal(rehearsal);
        requireFame(fame);
        int before = day.fames[rehearsal];
        saved.save(day);
        day.fames[rehearsal] = fame;
        return before;
    }

    public int changePause(int quarters) throws IllegalArgumentException, IllegalStateException {
        if (quarters < 0 || quarters > LONGEST_PAUSE) {
            throw new IllegalArgumentException("the pause is out of range");
        }
        if (!day.bookingsAllowPause(quarters)) {
            throw new IllegalStateException("booked rehearsals would be in conflict");
        }
        int before = day.pause;
        saved.save(day);
        day.pause = quarters;
        return before;
    }

    // ---- bookings

    public int book(int rehearsal) throws IndexOutOfBoundsException, IllegalStateException {
        requireRehearsal(rehearsal);
        if (day.hasBooked(rehearsal)) {
            throw new IllegalStateException("already booked");
        }
        if ((day.conflictsWith(rehearsal) & day.bookings) != 0) {
            throw new IllegalStateException("in conflict with a booked rehearsal");
        }
        saved.save(day);
        day.bookings |= bit(rehearsal);
        return day.fameOfSet(day.bookings);
    }

    public int cancel(int rehearsal) throws IndexOutOfBoundsException, IllegalStateException {
        requireRehearsal(rehearsal);
        if (!day.hasBooked(rehearsal)) {
            throw new IllegalStateException("not booked");
        }
        saved.save(day);
        day.bookings &= ~bit(rehearsal);
        return day.fameOfSet(day.bookings);
    }

    public int bookBest() {
        saved.save(day);
        day.bookings = choices.bestSet(day);
        return Integer.bitCount(day.bookings);
    }

    // ---- texts

    public int append(int code) throws IllegalArgumentException, IllegalStateException {
        if (code < FIRST_CODE || code > LAST_CODE) {
            throw new IllegalArgumentException("no such character");
        }
        if (buffer.length >= LONGEST_TEXT) {
            throw new IllegalStateException("the buffer is full");
        }
        buffer.put(code);
        return buffer.length;
    }

    public int clearBuffer() {
        int length = buffer.length;
        buffer.length = 0;
        return length;
    }

    public int firstError() {
        return buffer.scan();
    }

    public int read() throws IllegalArgumentException, IllegalStateException {
        if (!buffer.tellsRehearsals() || !buffer.endsFit()) {
            throw new IllegalArgumentException("the buffer does not tell rehearsals");
        }
        requirePlacesFor(buffer.parts());
        saved.save(day);
        for (int part = 0; part < buffer.parts(); part++) {
            day.takeOn(buffer.beginIn(part), buffer.endIn(part), buffer.fameIn(part));
        }
        buffer.length = 0;
        return day.count;
    }

    // ---- snapshots, undo

    public void keep(int slot) throws IllegalArgumentException {
        requireSlot(slot);
        snapshots[slot].copyFrom(day);
        taken[slot] = true;
    }

    public void goBack(int slot) throws IllegalArgumentException, IllegalStateException {
        requireSlot(slot);
        if (!taken[slot]) {
            throw new IllegalStateException("no snapshot in this slot");
        }
        saved.save(day);
        day.copyFrom(snapshots[slot]);
    }

    public void undo() throws IllegalStateException {
        if (saved.count == 0) {
            throw new IllegalStateException("no saved state");
        }
        saved.restoreLatest(day);
    }

    public int savedStates() {
        return saved.count;
    }

    // ---- rehearsals as they are; nothing is changed

    public int rehearsals() {
        return day.count;
    }

    public int beginOf(int rehearsal) throws IndexOutOfBoundsException {
        requireRehearsal(rehearsal);
        return day.begins[rehearsal];
    }

    public int endOf(int rehearsal) throws IndexOutOfBoundsException {
        requireRehearsal(rehearsal);
        return day.ends[rehearsal];
    }

    public int fameOf(int rehearsal) throws IndexOutOfBoundsException {
        requireRehearsal(rehearsal);
        return day.fames[rehearsal];
    }

    public float famePerQuarter(int rehearsal) throws IndexOutOfBoundsException {
        requireRehearsal(rehearsal);
        return (float) day.fames[rehearsal] / (float) day.quartersOf(rehearsal);
    }

    public boolean isBooked(int rehearsal) throws IndexOutOfBoundsException {
        requireRehearsal(rehearsal);
        return day.hasBooked(rehearsal);
    }

    public int pause() {
        return day.pause;
    }

    public int booked() {
        return Integer.bitCount(day.bookings);
    }

    public int bookedFame() {
        return day.fameOfSet(day.bookings);
    }

    // ---- conflicts, rooms; nothing is changed

    public boolean areInConflict(int one, int other) throws IndexOutOfBoundsException {
        requireRehearsal(one);
        requireRehearsal(other);
        return day.clash(one, other);
    }

    public int conflictsOf(int rehearsal) throws IndexOutOfBoundsException {
        requireRehearsal(rehearsal);
        return Integer.bitCount(day.conflictsWith(rehearsal));
    }

    public int conflictsByPairs() {
        int pairs = 0;
        for (int one = 0; one < day.count; one++) {
            for (int other = one + 1; other < day.count; other++) {
                if (day.clash(one, other)) {
                    pairs++;
                }
            }
        }
        return pairs;
    }

    public int conflictsBySweep() {
        return rooms.sweptPairs(day);
    }

    public int roomsBySweep() {
        return rooms.sweptRooms(day);
    }

    public int roomsByGiving() {
        return rooms.givenRooms(day);
    }

    public int roomOf(int rehearsal) throws IndexOutOfBoundsException {
        requireRehearsal(rehearsal);
        return rooms.givenTo(day, rehearsal);
    }

    // ---- choices; nothing is changed

    public int bestByTrying() {
        return choices.triedFame(day);
    }

    public int bestByTable() {
        return choices.fameAmong(day, day.all());
    }

    public int bestChoice() {
        return choices.bestSet(day);
    }

    public int mostRehearsals() {
        return choices.mostInOne(day);
    }

    public int bestWith(int rehearsal) throws IndexOutOfBoundsException {
        requireRehearsal(rehearsal);
        int others = day.all() & ~bit(rehearsal) & ~day.conflictsWith(rehearsal);
        return day.fames[rehearsal] + choices.fameAmong(day, others);
    }

    public double bookedShare() {
        return (double) day.quartersOfSet(day.bookings) / (double) QUARTERS;
    }

    public long digest() {
        long hash = mix(HASH_START, rehearsals());
        for (int rehearsal = 0; rehearsal < day.count; rehearsal++) {
            hash = mixRehearsal(hash, rehearsal);
        }
        hash = mixWhole(hash);
        for (int slot = 0; slot < SLOTS; slot++) {
            hash = mix(hash, taken[slot] ? 1 : 0);
        }
        hash = mix(hash, buffer.length);
        for (int place = 0; place < buffer.length; place++) {
            hash = mix(hash, buffer.codes[place]);
        }
        return hash;
    }

    private long mixRehearsal(long start, int rehearsal) {
        long hash = mix(start, beginOf(rehearsal));
        hash = mix(hash, endOf(rehearsal));
        hash = mix(hash, fameOf(rehearsal));
        hash = mix(hash, floatBits(famePerQuarter(rehearsal)));
        hash = mix(hash, isBooked(rehearsal) ? 1 : 0);
        hash = mix(hash, conflictsOf(rehearsal));
        hash = mix(hash, roomOf(rehearsal));
        return mix(hash, bestWith(rehearsal));
    }

    private long mixWhole(long start) {
        long hash = mix(start, pause());
        hash = mix(hash, booked());
        hash = mix(hash, bookedFame());
        hash = mix(hash, conflictsByPairs());
        hash = mix(hash, conflictsBySweep());
        hash = mix(hash, roomsBySweep());
        hash = mix(hash, roomsByGiving());
        hash = mix(hash, bestByTrying());
        hash = mix(hash, bestByTable());
        hash = mix(hash, bestChoice());
        hash = mix(hash, mostRehearsals());
        hash = mix(hash, savedStates());
        return mix(hash, doubleBits(bookedShare()));
    }

    private static long mix(long hash, long value) {
        return 31L * hash + value;
    }

    private static long floatBits(float value) {
        return bitsOf((double) value, 23, 127);
    }

    private static long doubleBits(double value) {
        return bitsOf(value, 52, 1023);
    }

    /**
     * The bits of 0 or of a value above 0 that is not too near to 0 or too great for a full fraction.
     * By arithmetic (halving and doubling are exact), for LANGUAGE.md's rule 4 leaves floatToIntBits
     * and doubleToLongBits out.
     */
    private static long bitsOf(double value, int fractionLength, int bias) {
        if (!(value > 0.0)) {
            return 0L;
        }
        double scaled = value;
        int exponent = bias;
        while (scaled >= 2.0 && exponent < 2 * bias) {
            scaled = scaled / 2.0;
            exponent++;
        }
        while (scaled < 1.0 && exponent > 1) {
            scaled = scaled * 2.0;
            exponent--;
        }
        long fraction = (long) ((scaled - 1.0) * (double) (1L << fractionLength));
        return ((long) exponent << fractionLength) + fraction;
    }

    private void requireRehearsal(int rehearsal) {
        if (rehearsal < 0 || rehearsal >= day.count) {
            throw new IndexOutOfBoundsException("no such rehearsal");
        }
    }

    private static void requireTimes(int begin, int end) {
        if (begin < 0 || begin >= QUARTERS || end <= begin || end > QUARTERS) {
            throw new IllegalArgumentException("begin or end is out of range");
        }
    }

    private static void requireFame(int fame) {
        if (fame < 1 || fame > GREATEST_FAME) {
            throw new IllegalArgumentException("the fame is out of range");
        }
    }

    private static void requireSlot(int slot) {
        if (slot < 0 || slot >= SLOTS) {
            throw new IllegalArgumentException("no such slot");
        }
    }

    private void requirePlacesFor(int more) {
        if (day.count + more > CAPACITY) {
            throw new IllegalStateException("too many rehearsals");
        }
    }

    private static int bit(int place) {
        return 1 << place;
    }

    private static boolean isIn(int set, int place) {
        return (set & bit(place)) != 0;
    }

    /** Puts the numbers below count into the order of their keys; of like ones the lower number comes first. */
    private static void orderBy(int[] keys, int count, int[] order) {
        for (int number = 0; number < count; number++) {
            int place = number;
            while (place > 0 && keys[order[place - 1]] > keys[number]) {
                order[place] = order[place - 1];
                place--;
            }
            order[place] = number;
        }
    }

    /** The rehearsals, the pause and the bookings: what a snapshot or a saved state holds. */
    private static final class Day {
        final int[] begins = new int[CAPACITY];
        final int[] ends = new int[CAPACITY];
        final int[] fames = new int[CAPACITY];
        int count = 0;
        int pause = 0;
        /** A set of bits. */
        int bookings = 0;

        void copyFrom(Day other) {
            for (int rehearsal = 0; rehearsal < other.count; rehearsal++) {
                copyRehearsal(other, rehearsal, rehearsal);
            }
            count = other.count;
            pause = other.pause;
            bookings = other.bookings;
        }

        private void copyRehearsal(Day other, int from, int to) {
            begins[to] = other.begins[from];
            ends[to] = other.ends[from];
            fames[to] = other.fames[from];
        }

        void takeOn(int begin, int end, int fame) {
            begins[count] = begin;
            ends[count] = end;
            fames[count] = fame;
            count++;
        }

        void takeOut(int rehearsal) {
            for (int later = rehearsal + 1; later < count; later++) {
                copyRehearsal(this, later, later - 1);
            }
            int below = bookings & (bit(rehearsal) - 1);
            int above = bookings >> (rehearsal + 1) << rehearsal;
            bookings = below | above;
            count--;
        }

        int all() {
            return bit(count) - 1;
        }

        boolean hasBooked(int rehearsal) {
            return isIn(bookings, rehearsal);
        }

        int quartersOf(int rehearsal) {
            return ends[rehearsal] - begins[rehearsal];
        }

        int fameOfSet(int set) {
            int fame = 0;
            for (int rehearsal = 0; rehearsal < count; rehearsal++) {
                if (isIn(set, rehearsal)) {
                    fame += fames[rehearsal];
                }
            }
            return fame;
        }

        int quartersOfSet(int set) {
            int quarters = 0;
            for (int rehearsal = 0; rehearsal < count; rehearsal++) {
                if (isIn(set, rehearsal)) {
                    quarters += quartersOf(rehearsal);
                }
            }
            return quarters;
        }

        boolean clash(int one, int other) {
            return one != other && clashWithTimes(one, begins[other], ends[other], pause);
        }

        private boolean clashWithTimes(int rehearsal, int begin, int end, int between) {
            return ends[rehearsal] + between > begin && end + between > begins[rehearsal];
        }

        /** All that are in conflict with a rehearsal, as a set of bits. */
        int conflictsWith(int rehearsal) {
            int set = 0;
            for (int other = 0; other < count; other++) {
                if (clash(rehearsal, other)) {
                    set |= bit(other);
                }
            }
            return set;
        }

        /** Whether the other bookings leave these times to a rehearsal. */
        boolean bookingsAllow(int rehearsal, int begin, int end) {
            for (int other = 0; other < count; other++) {
                if (other != rehearsal && hasBooked(other) && clashWithTimes(other, begin, end, pause)) {
                    return false;
                }
            }
            return true;
        }

        boolean bookingsAllowPause(int quarters) {
            for (int one = 0; one < count; one++) {
                for (int other = one + 1; other < count; other++) {
                    if (hasBooked(one) && hasBooked(other)
                            && clashWithTimes(one, begins[other], ends[other], quarters)) {
                        return false;
                    }
                }
            }
            return true;
        }

        int beginningAt(int quarter) {
            int beginning = 0;
            for (int rehearsal = 0; rehearsal < count; rehearsal++) {
                if (begins[rehearsal] == quarter) {
                    beginning++;
                }
            }
            return beginning;
        }

        /** How many have their pause over at this quarter, but not at the one ahead of it. */
        int overAt(int quarter) {
            int over = 0;
            for (int rehearsal = 0; rehearsal < count; rehearsal++) {
                if (ends[rehearsal] + pause == quarter) {
                    over++;
                }
            }
            return over;
        }
    }

    /** The states for undo, in a ring: the oldest one gives way. */
    private static final class SavedDays {
        private final Day[] days = new Day[MOST_SAVED];
        private int oldest = 0;
        int count = 0;

        SavedDays() {
            for (int place = 0; place < MOST_SAVED; place++) {
                days[place] = new Day();
            }
        }

        void save(Day day) {
            if (count == MOST_SAVED) {
                oldest = (oldest + 1) % MOST_SAVED;
                count--;
            }
            days[(oldest + count) % MOST_SAVED].copyFrom(day);
            count++;
        }

        /** To be called only if there is one. */
        void restoreLatest(Day day) {
            count--;
            day.copyFrom(days[(oldest + count) % MOST_SAVED]);
        }
    }

    /** The buffer, and how it is read: a text is a row of numbers, each with its sign behind it. */
    private static final class Text {
        private static final int KINDS = 3;
        private static final int BEGIN = 0;
        private static final int END = 1;
        private static final int FAME = 2;
        private static final int[] GREATEST = {95, 96, 50};
        private static final char[] SIGN_BEHIND = {'-', '*', ';'};
        private static final int NO_DIGIT_YET = -1;

        final int[] codes = new int[LONGEST_TEXT];
        int length = 0;
        private final int[] numbers = new int[LONGEST_TEXT];
        private int finished = 0;
        private int value = NO_DIGIT_YET;

        void put(int code) {
            codes[length] = code;
            length++;
        }

        /** Reads up to the first syntax error, and returns its place, or the length if there is none. */
        int scan() {
            finished = 0;
            value = NO_DIGIT_YET;
            for (int place = 0; place < length; place++) {
                if (!takes(codes[place])) {
                    return place;
                }
            }
            return length;
        }

        private boolean takes(int code) {
            if (code >= '0' && code <= '9') {
                return takesDigit(code - '0');
            }
            if (value == NO_DIGIT_YET || code != SIGN_BEHIND[kind()]) {
                return false;
            }
            finishNumber();
            return true;
        }

        private boolean takesDigit(int digit) {
            if (value == NO_DIGIT_YET) {
                value = digit;
                return digit > 0 || kind() == BEGIN;
            }
            boolean leadingZero = value == 0;
            value = 10 * value + digit;
            return !leadingZero && value <= GREATEST[kind()];
        }

        /** Which number of a part is being read. */
        private int kind() {
            return finished % KINDS;
        }

        private void finishNumber() {
            if (finished < numbers.length) {
                numbers[finished] = value;
                finished++;
            }
            value = NO_DIGIT_YET;
        }

        /** Whether the whole buffer is a text; the parts stand ready then. */
        boolean tellsRehearsals() {
            if (scan() < length || value == NO_DIGIT_YET || kind() != FAME) {
                return false;
            }
            finishNumber();
            return true;
        }

        int parts() {
            return finished / KINDS;
        }

        int beginIn(int part) {
            return numbers[KINDS * part + BEGIN];
        }

        int endIn(int part) {
            return numbers[KINDS * part + END];
        }

        int fameIn(int part) {
            return numbers[KINDS * part + FAME];
        }

        boolean endsFit() {
            for (int part = 0; part < parts(); part++) {
                if (endIn(part) <= beginIn(part)) {
                    return false;
                }
            }
            return true;
        }
    }

    /** Conflicts and rooms by going through the quarters, and rooms by giving them. */
    private static final class Rooms {
        private final int[] order = new int[CAPACITY];
        private final int[] given = new int[CAPACITY];

        int sweptPairs(Day day) {
            int pairs = 0;
            int going = 0;
            for (int quarter = 0; quarter < QUARTERS; quarter++) {
                going -= day.overAt(quarter);
                int beginning = day.beginningAt(quarter);
                pairs += beginning * going + beginning * (beginning - 1) / 2;
                going += beginning;
            }
            return pairs;
        }

        int sweptRooms(Day day) {
            int most = 0;
            int going = 0;
            for (int quarter = 0; quarter < QUARTERS; quarter++) {
                going += day.beginningAt(quarter) - day.overAt(quarter);
                most = Math.max(most, going);
            }
            return most;
        }

        int givenRooms(Day day) {
            giveAll(day);
            int most = 0;
            for (int rehearsal = 0; rehearsal < day.count; rehearsal++) {
                most = Math.max(most, given[rehearsal] + 1);
            }
            return most;
        }

        int givenTo(Day day, int rehearsal) {
            giveAll(day);
            return given[rehearsal];
        }

        private void giveAll(Day day) {
            orderBy(day.begins, day.count, order);
            for (int place = 0; place < day.count; place++) {
                given[order[place]] = lowestRoomFor(day, place);
            }
        }

        /** All ahead of this place in the order have their rooms already. */
        private int lowestRoomFor(Day day, int place) {
            int full = 0;
            for (int ahead = 0; ahead < place; ahead++) {
                if (day.clash(order[place], order[ahead])) {
                    full |= bit(given[order[ahead]]);
                }
            }
            int room = 0;
            while (room < place && isIn(full, room)) {
                room++;
            }
            return room;
        }
    }

    /** The best of all choices, by trying them and by a table. */
    private static final class Choices {
        private final int[] order = new int[CAPACITY];
        private final int[] conflicts = new int[CAPACITY];
        /** At each place the greatest fame of a choice of so many rehearsals that are first in the order. */
        private final int[] table = new int[CAPACITY + 1];

        int triedFame(Day day) {
            for (int rehearsal = 0; rehearsal < day.count; rehearsal++) {
                conflicts[rehearsal] = day.conflictsWith(rehearsal);
            }
            return tryDownFrom(day.count - 1, day.fames, conflicts, 0);
        }

        /** Tries all choices of this rehearsal and those of lower numbers that hold none of the barred ones. */
        private static int tryDownFrom(int rehearsal, int[] fames, int[] conflicts, int barred) {
            if (rehearsal < 0 || rehearsal >= CAPACITY) {
                return 0;
            }
            int without = tryDownFrom(rehearsal - 1, fames, conflicts, barred);
            if (isIn(barred, rehearsal)) {
                return without;
            }
            int nowBarred = barred | conflicts[rehearsal];
            int with = fames[rehearsal] + tryDownFrom(rehearsal - 1, fames, conflicts, nowBarred);
            return Math.max(with, without);
        }

        /** The greatest fame of a choice out of a set of rehearsals, by the table. */
        int fameAmong(Day day, int set) {
            orderBy(day.ends, day.count, order);
            table[0] = 0;
            for (int place = 0; place < day.count; place++) {
                int rehearsal = order[place];
                int with = 0;
                if (isIn(set, rehearsal)) {
                    with = day.fames[rehearsal] + table[overBy(day, day.begins[rehearsal])];
                }
                table[place + 1] = Math.max(table[place], with);
            }
            return table[day.count];
        }

        /** How many, first in the order by their end, have their pause over when this quarter begins. */
        private int overBy(Day day, int quarter) {
            int over = 0;
            while (over < day.count && day.ends[order[over]] + day.pause <= quarter) {
                over++;
            }
            return over;
        }

        /**
         * Leaves out, from the highest bit down, each rehearsal without which as great a fame can be
         * had; so what is left is the least number, and is itself the only best choice out of it.
         */
        int bestSet(Day day) {
            int left = day.all();
            int best = fameAmong(day, left);
            for (int rehearsal = day.count - 1; rehearsal >= 0; rehearsal--) {
                int less = left & ~bit(rehearsal);
                if (fameAmong(day, less) == best) {
                    left = less;
                }
            }
            return left;
        }

        /** Takes what ends first, again and again: that never leaves less time for others. */
        int mostInOne(Day day) {
            orderBy(day.ends, day.count, order);
            int most = 0;
            int free = 0;
            for (int place = 0; place < day.count; place++) {
                int rehearsal = order[place];
                if (day.begins[rehearsal] >= free) {
                    most++;
                    free = day.ends[rehearsal] + day.pause;
                }
            }
            return most;
        }
    }
}
