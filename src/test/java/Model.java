import java.util.ArrayDeque;
import java.util.ArrayList;
import java.util.Deque;
import java.util.List;
import java.util.regex.Matcher;
import java.util.regex.Pattern;

/**
 * The document once more, as differently from the program as it can be: whole states are copied,
 * choices are all sets, the texts are a regular expression. RandomRunsTest holds the two together.
 */
public final class Model {

    private static final Pattern TEXT = Pattern.compile(
            "PART(;PART)*".replace("PART",
                    "(0|[1-9]|[1-8][0-9]|9[0-5])-([1-9]|[1-8][0-9]|9[0-6])\\*([1-9]|[1-4][0-9]|50)"));

    private static final class Rehearsal {
        final int begin;
        final int end;
        final int fame;
        final boolean booked;

        Rehearsal(int begin, int end, int fame, boolean booked) {
            this.begin = begin;
            this.end = end;
            this.fame = fame;
            this.booked = booked;
        }
    }

    private static final class State {
        final List<Rehearsal> list;
        final int pause;

        State(List<Rehearsal> list, int pause) {
            this.list = List.copyOf(list);
            this.pause = pause;
        }
    }

    private State now = new State(List.of(), 0);
    private final Deque<State> saved = new ArrayDeque<>();
    private final State[] slots = new State[2];
    private final StringBuilder buffer = new StringBuilder();

    private void become(List<Rehearsal> list, int pause) {
        become(new State(list, pause));
    }

    private void become(State next) {
        saved.addLast(now);
        if (saved.size() > 6) {
            saved.removeFirst();
        }
        now = next;
    }

    private Rehearsal at(int rehearsal) {
        if (rehearsal < 0 || rehearsal >= now.list.size()) {
            throw new IndexOutOfBoundsException();
        }
        return now.list.get(rehearsal);
    }

    private void argument(boolean fine) {
        if (!fine) {
            throw new IllegalArgumentException();
        }
    }

    private void state(boolean fine) {
        if (!fine) {
            throw new IllegalStateException();
        }
    }

    private static boolean apart(Rehearsal one, Rehearsal other, int pause) {
        return one.end + pause <= other.begin || other.end + pause <= one.begin;
    }

    private static boolean bookingsHold(List<Rehearsal> list, int pause) {
        for (int one = 0; one < list.size(); one++) {
            for (int other = 0; other < one; other++) {
                Rehearsal a = list.get(one);
                Rehearsal b = list.get(other);
                if (a.booked && b.booked && !apart(a, b, pause)) {
                    return false;
                }
            }
        }
        return true;
    }

    private List<Rehearsal> with(int rehearsal, Rehearsal next) {
        List<Rehearsal> list = new ArrayList<>(now.list);
        list.set(rehearsal, next);
        return list;
    }

    public int add(int begin, int end, int fame) {
        argument(begin >= 0 && begin <= 95 && (long) end >= (long) begin + 1 && end <= 96);
        argument(fame >= 1 && fame <= 50);
        state(now.list.size() < 14);
        List<Rehearsal> list = new ArrayList<>(now.list);
        list.add(new Rehearsal(begin, end, fame, false));
        become(list, now.pause);
        return list.size() - 1;
    }

    public int strike(int rehearsal) {
        int fame = at(rehearsal).fame;
        List<Rehearsal> list = new ArrayList<>(now.list);
        list.remove(rehearsal);
        become(list, now.pause);
        return fame;
    }

    public int move(int rehearsal, int begin, int end) {
        Rehearsal old = at(rehearsal);
        argument(begin >= 0 && begin <= 95 && (long) end >= (long) begin + 1 && end <= 96);
        List<Rehearsal> list = with(rehearsal, new Rehearsal(begin, end, old.fame, old.booked));
        state(bookingsHold(list, now.pause));
        become(list, now.pause);
        return (end - begin) - (old.end - old.begin);
    }

    public int changeFame(int rehearsal, int fame) {
        Rehearsal old = at(rehearsal);
        argument(fame >= 1 && fame <= 50);
        become(with(rehearsal, new Rehearsal(old.begin, old.end, fame, old.booked)), now.pause);
        return old.fame;
    }

    public int changePause(int quarters) {
        argument(quarters >= 0 && quarters <= 8);
        state(bookingsHold(now.list, quarters));
        int before = now.pause;
        become(now.list, quarters);
        return before;
    }

    public int book(int rehearsal) {
        Rehearsal old = at(rehearsal);
        state(!old.booked);
        List<Rehearsal> list = with(rehearsal, new Rehearsal(old.begin, old.end, old.fame, true));
        state(bookingsHold(list, now.pause));
        become(list, now.pause);
        return bookedFame();
    }

    public int cancel(int rehearsal) {
        Rehearsal old = at(rehearsal);
        state(old.booked);
        become(with(rehearsal, new Rehearsal(old.begin, old.end, old.fame, false)), now.pause);
        return bookedFame();
    }

    public int bookBest() {
        int best = bestChoice();
        List<Rehearsal> list = new ArrayList<>();
        for (int number = 0; number < now.list.size(); number++) {
            Rehearsal old = now.list.get(number);
            list.add(new Rehearsal(old.begin, old.end, old.fame, (best >> number & 1) == 1));
        }
        become(list, now.pause);
        return Integer.bitCount(best);
    }

    public int append(int code) {
        argument(code >= 33 && code <= 126);
        state(buffer.length() < 60);
        buffer.append((char) code);
        return buffer.length();
    }

    public int clearBuffer() {
        int length = buffer.length();
        buffer.setLength(0);
        return length;
    }

    public int firstError() {
        return firstError(buffer.toString());
    }

    static int firstError(String text) {
        for (int length = 1; length <= text.length(); length++) {
            Matcher matcher = TEXT.matcher(text.substring(0, length));
            if (!matcher.matches() && !matcher.hitEnd()) {
                return length - 1;
            }
        }
        return text.length();
    }

    public int read() {
        argument(TEXT.matcher(buffer).matches());
        List<Rehearsal> list = new ArrayList<>(now.list);
        for (String part : buffer.toString().split(";")) {
            String[] numbers = part.split("[-*]");
            int begin = Integer.parseInt(numbers[0]);
            int end = Integer.parseInt(numbers[1]);
            argument(end > begin);
            list.add(new Rehearsal(begin, end, Integer.parseInt(numbers[2]), false));
        }
        state(list.size() <= 14);
        become(list, now.pause);
        buffer.setLength(0);
        return list.size();
    }

    public void keep(int slot) {
        argument(slot == 0 || slot == 1);
        slots[slot] = now;
    }

    public void goBack(int slot) {
        argument(slot == 0 || slot == 1);
        state(slots[slot] != null);
        become(slots[slot]);
    }

    public void undo() {
        state(!saved.isEmpty());
        now = saved.removeLast();
    }

    public int savedStates() {
        return saved.size();
    }

    public int rehearsals() {
        return now.list.size();
    }

    public int beginOf(int rehearsal) {
        return at(rehearsal).begin;
    }

    public int endOf(int rehearsal) {
        return at(rehearsal).end;
    }

    public int fameOf(int rehearsal) {
        return at(rehearsal).fame;
    }

    public float famePerQuarter(int rehearsal) {
        Rehearsal it = at(rehearsal);
        return (float) it.fame / (float) (it.end - it.begin);
    }

    public boolean isBooked(int rehearsal) {
        return at(rehearsal).booked;
    }

    public int pause() {
        return now.pause;
    }

    public int booked() {
        return (int) now.list.stream().filter(it -> it.booked).count();
    }

    public int bookedFame() {
        return now.list.stream().filter(it -> it.booked).mapToInt(it -> it.fame).sum();
    }

    public boolean areInConflict(int one, int other) {
        Rehearsal a = at(one);
        Rehearsal b = at(other);
        return one != other && !apart(a, b, now.pause);
    }

    public int conflictsOf(int rehearsal) {
        at(rehearsal);
        int conflicts = 0;
        for (int other = 0; other < now.list.size(); other++) {
            conflicts += areInConflict(rehearsal, other) ? 1 : 0;
        }
        return conflicts;
    }

    public int conflictsByPairs() {
        int twice = 0;
        for (int one = 0; one < now.list.size(); one++) {
            twice += conflictsOf(one);
        }
        return twice / 2;
    }

    public int conflictsBySweep() {
        return conflictsByPairs();
    }

    public int roomsBySweep() {
        int most = 0;
        for (int quarter = 0; quarter < 200; quarter++) {
            int going = 0;
            for (Rehearsal it : now.list) {
                going += it.begin <= quarter && quarter < it.end + now.pause ? 1 : 0;
            }
            most = Math.max(most, going);
        }
        return most;
    }

    public int roomsByGiving() {
        int most = 0;
        for (int number = 0; number < now.list.size(); number++) {
            most = Math.max(most, 1 + roomOf(number));
        }
        return most;
    }

    public int roomOf(int rehearsal) {
        at(rehearsal);
        List<List<Integer>> rooms = new ArrayList<>();
        for (int begin = 0; begin < 96; begin++) {
            for (int number = 0; number < now.list.size(); number++) {
                if (now.list.get(number).begin == begin && give(rooms, number) && number == rehearsal) {
                    return roomWith(rooms, number);
                }
            }
        }
        throw new AssertionError("no room was given");
    }

    private boolean give(List<List<Integer>> rooms, int number) {
        for (List<Integer> room : rooms) {
            if (room.stream().noneMatch(given -> areInConflict(given, number))) {
                return room.add(number);
            }
        }
        return rooms.add(new ArrayList<>(List.of(number)));
    }

    private static int roomWith(List<List<Integer>> rooms, int number) {
        for (int room = 0; room < rooms.size(); room++) {
            if (rooms.get(room).contains(number)) {
                return room;
            }
        }
        return -1;
    }

    /** The fame of each set of rehearsals, -1 if it is no choice. */
    private int[] fames() {
        int count = now.list.size();
        int[] fames = new int[1 << count];
        for (int set = 1; set < fames.length; set++) {
            int top = 31 - Integer.numberOfLeadingZeros(set);
            int rest = set ^ 1 << top;
            boolean fits = fames[rest] >= 0;
            for (int other = 0; other < top && fits; other++) {
                fits = (rest >> other & 1) == 0 || apart(now.list.get(top), now.list.get(other), now.pause);
            }
            fames[set] = fits ? fames[rest] + now.list.get(top).fame : -1;
        }
        return fames;
    }

    public int bestByTrying() {
        return fames()[bestChoice()];
    }

    public int bestByTable() {
        return bestByTrying();
    }

    public int bestChoice() {
        int[] fames = fames();
        int best = 0;
        for (int set = 1; set < fames.length; set++) {
            if (fames[set] > fames[best]) {
                best = set;
            }
        }
        return best;
    }

    public int mostRehearsals() {
        int[] fames = fames();
        int most = 0;
        for (int set = 1; set < fames.length; set++) {
            if (fames[set] > 0) {
                most = Math.max(most, Integer.bitCount(set));
            }
        }
        return most;
    }

    public int bestWith(int rehearsal) {
        at(rehearsal);
        return bestWith(fames(), rehearsal);
    }

    private static int bestWith(int[] fames, int rehearsal) {
        int best = 0;
        for (int set = 1; set < fames.length; set++) {
            if ((set >> rehearsal & 1) == 1) {
                best = Math.max(best, fames[set]);
            }
        }
        return best;
    }

    public double bookedShare() {
        int quarters = 0;
        for (Rehearsal it : now.list) {
            quarters += it.booked ? it.end - it.begin : 0;
        }
        return (double) quarters / 96;
    }

    public long digest() {
        List<Long> values = new ArrayList<>();
        int[] fames = fames();
        values.add((long) rehearsals());
        for (int number = 0; number < now.list.size(); number++) {
            values.add((long) beginOf(number));
            values.add((long) endOf(number));
            values.add((long) fameOf(number));
            values.add((long) Float.floatToIntBits(famePerQuarter(number)));
            values.add(isBooked(number) ? 1L : 0L);
            values.add((long) conflictsOf(number));
            values.add((long) roomOf(number));
            values.add((long) bestWith(fames, number));
        }
        values.add((long) pause());
        values.add((long) booked());
        values.add((long) bookedFame());
        values.add((long) conflictsByPairs());
        values.add((long) conflictsBySweep());
        values.add((long) roomsBySweep());
        values.add((long) roomsByGiving());
        values.add((long) bestByTrying());
        values.add((long) bestByTable());
        values.add((long) bestChoice());
        values.add((long) mostRehearsals());
        values.add((long) savedStates());
        values.add(Double.doubleToLongBits(bookedShare()));
        for (State slot : slots) {
            values.add(slot == null ? 0L : 1L);
        }
        values.add((long) buffer.length());
        for (int place = 0; place < buffer.length(); place++) {
            values.add((long) buffer.charAt(place));
        }
        long hash = 4327;
        for (long value : values) {
            hash = 31 * hash + value;
        }
        return hash;
    }
}
