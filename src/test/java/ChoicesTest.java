/** Promises 34 to 40: choices, and the digest. */
public final class ChoicesTest {

    private static final Checks CHECKS = new Checks();

    public static void main(String[] args) {
        promises34To36();
        promises34To36Pause();
        promise36Ties();
        promise37();
        promise38();
        promise39();
        promise40();
        promise40EveryFamePerQuarter();
        promise40EveryShare();
        nothingIsChanged();
        CHECKS.end();
    }

    private static void dueBest(RehearsalRoom room, int fame, int choice) {
        CHECKS.due("bestByTrying()", room.bestByTrying(), fame);
        CHECKS.due("bestByTable()", room.bestByTable(), fame);
        CHECKS.due("bestChoice()", room.bestChoice(), choice);
    }

    private static void promises34To36() {
        dueBest(new RehearsalRoom(), 0, 0);
        dueBest(Some.apart(1), 1, 1);
        dueBest(Some.apart(14), 105, (1 << 14) - 1);
        dueBest(Some.room(0, 50, 30, 50, 96, 20, 40, 60, 45), 50, 3);
        dueBest(Some.room(0, 50, 30, 50, 96, 10, 40, 60, 45), 45, 4);
        dueBest(Some.room(8, 12, 5, 12, 20, 7, 11, 13, 20, 0, 96, 30, 20, 24, 3, 8, 9, 2), 30, 8);
        RehearsalRoom full = new RehearsalRoom();
        for (int number = 0; number < 14; number++) {
            full.add(6 * number, 6 * number + 6, 50);
        }
        dueBest(full, 700, (1 << 14) - 1);
        full.changePause(1);
        dueBest(full, 350, 0b01010101010101);
        full.changePause(7);
        dueBest(full, 250, 0b01001001001001);
    }

    private static void promises34To36Pause() {
        RehearsalRoom room = Some.room(0, 10, 5, 12, 20, 6, 10, 12, 7);
        dueBest(room, 18, 7);
        room.changePause(2);
        dueBest(room, 11, 3);
        room.changePause(3);
        dueBest(room, 7, 4);
    }

    private static void promise36Ties() {
        dueBest(Some.room(0, 10, 5, 0, 10, 5, 10, 20, 5, 10, 20, 5), 10, 0b0101);
        dueBest(Some.room(0, 10, 4, 10, 20, 4, 0, 20, 8), 8, 0b011);
        dueBest(Some.room(0, 20, 8, 0, 10, 4, 10, 20, 4), 8, 0b001);
        dueBest(Some.room(0, 10, 4, 0, 20, 8, 10, 20, 4), 8, 0b010);
        dueBest(Some.room(5, 6, 3, 0, 10, 4, 5, 7, 4, 6, 7, 1, 20, 21, 1), 5, 0b10010);
    }

    private static void dueMost(RehearsalRoom room, int want) {
        CHECKS.due("mostRehearsals()", room.mostRehearsals(), want);
    }

    private static void promise37() {
        dueMost(new RehearsalRoom(), 0);
        dueMost(Some.apart(1), 1);
        dueMost(Some.apart(14), 14);
        dueMost(Some.room(8, 12, 5, 12, 20, 7, 11, 13, 20, 0, 96, 30, 20, 24, 3, 8, 9, 2), 3);
        RehearsalRoom pausing = Some.apart(14);
        pausing.changePause(1);
        dueMost(pausing, 14);
        pausing.changePause(2);
        dueMost(pausing, 7);
        pausing.changePause(8);
        dueMost(pausing, 3);
        dueMost(Some.room(0, 96, 50, 1, 2, 1, 95, 96, 1), 2);
    }

    private static void dueWith(RehearsalRoom room, int... want) {
        for (int number = 0; number < want.length; number++) {
            CHECKS.due("bestWith(" + number + ")", room.bestWith(number), want[number]);
        }
    }

    private static void promise38() {
        RehearsalRoom room = Some.room(8, 12, 5, 12, 20, 7, 11, 13, 20, 0, 96, 30, 20, 24, 3, 8, 9, 2);
        dueWith(room, 15, 15, 25, 30, 25, 25);
        room.changePause(8);
        dueWith(room, 8, 7, 20, 30, 8, 5);
        dueWith(Some.room(0, 10, 1, 10, 20, 2, 5, 15, 4), 3, 3, 4);
        for (RehearsalRoom it : new RehearsalRoom[] {new RehearsalRoom(), Some.apart(3), Some.apart(14)}) {
            for (int number : new int[] {-1, it.rehearsals(), 14, 32, Integer.MAX_VALUE, Integer.MIN_VALUE}) {
                CHECKS.refusedIndex(it, "bestWith(" + number + ")", () -> it.bestWith(number));
            }
        }
    }

    private static void promise39() {
        RehearsalRoom room = Some.room(0, 1, 1, 1, 36, 1, 36, 96, 1);
        CHECKS.dueBits("bookedShare()", room.bookedShare(), 0.0);
        room.book(0);
        CHECKS.dueBits("bookedShare()", room.bookedShare(), 1.0 / 96.0);
        room.book(1);
        CHECKS.dueBits("bookedShare()", room.bookedShare(), 0.375);
        room.book(2);
        CHECKS.dueBits("bookedShare()", room.bookedShare(), 1.0);
        room.cancel(1);
        CHECKS.dueBits("bookedShare()", room.bookedShare(), 61.0 / 96.0);
        RehearsalRoom pausing = Some.room(0, 10, 1);
        pausing.changePause(8);
        pausing.book(0);
        CHECKS.dueBits("bookedShare(), without the pause", pausing.bookedShare(), 10.0 / 96.0);
    }

    private static void promise40() {
        RehearsalRoom room = new RehearsalRoom();
        long hash = 4327;
        for (int value = 0; value < 17; value++) {
            hash = 31 * hash;
        }
        CHECKS.due("digest() of a new object, whose 17 values are 0", room.digest(), hash);
        Model model = new Model();
        room.append(126);
        model.append(126);
        CHECKS.due("digest() with a buffer", room.digest(), model.digest());
        room.keep(1);
        model.keep(1);
        CHECKS.due("digest() with a snapshot", room.digest(), model.digest());
        room.add(8, 12, 5);
        model.add(8, 12, 5);
        CHECKS.due("digest() with a rehearsal", room.digest(), model.digest());
        room.book(0);
        model.book(0);
        CHECKS.due("digest() with a booking", room.digest(), model.digest());
        room.changePause(5);
        model.changePause(5);
        CHECKS.due("digest() with a pause", room.digest(), model.digest());
        long before = room.digest();
        CHECKS.due("digest() again", room.digest(), before);
    }

    private static void promise40EveryFamePerQuarter() {
        for (int length = 1; length <= 96; length++) {
            for (int fame = 1; fame <= 50; fame++) {
                RehearsalRoom room = new RehearsalRoom();
                Model model = new Model();
                room.add(0, length, fame);
                model.add(0, length, fame);
                CHECKS.due("digest() of add(0, " + length + ", " + fame + ")", room.digest(), model.digest());
            }
        }
    }

    private static void promise40EveryShare() {
        for (int length = 1; length <= 96; length++) {
            RehearsalRoom room = Some.room(0, length, 7);
            Model model = new Model();
            model.add(0, length, 7);
            room.book(0);
            model.book(0);
            CHECKS.due("digest() of " + length + " booked quarters", room.digest(), model.digest());
        }
    }

    private static void nothingIsChanged() {
        RehearsalRoom room = Some.room(30, 40, 1, 10, 20, 1, 5, 15, 1, 15, 16, 1);
        long before = room.digest();
        room.bestByTrying();
        room.bestByTable();
        room.bestChoice();
        room.mostRehearsals();
        room.bestWith(1);
        room.bookedShare();
        CHECKS.due("nothing is changed", room.digest(), before);
        CHECKS.due("booked()", room.booked(), 0);
        CHECKS.due("savedStates()", room.savedStates(), 4);
    }
}
