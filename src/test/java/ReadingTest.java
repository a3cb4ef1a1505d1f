/** Promises 18 to 26: rehearsals as they are. */
public final class ReadingTest {

    private static final Checks CHECKS = new Checks();

    public static void main(String[] args) {
        promises18To21();
        promise22();
        promises23To26();
        noSuchRehearsal(new RehearsalRoom());
        noSuchRehearsal(Some.apart(3));
        noSuchRehearsal(Some.apart(14));
        CHECKS.end();
    }

    private static void promises18To21() {
        RehearsalRoom room = new RehearsalRoom();
        CHECKS.due("rehearsals()", room.rehearsals(), 0);
        for (int number = 0; number < 14; number++) {
            room.add(number, 96 - number, 50 - number);
            CHECKS.due("rehearsals()", room.rehearsals(), number + 1);
        }
        for (int number = 0; number < 14; number++) {
            CHECKS.due("beginOf(" + number + ")", room.beginOf(number), number);
            CHECKS.due("endOf(" + number + ")", room.endOf(number), 96 - number);
            CHECKS.due("fameOf(" + number + ")", room.fameOf(number), 50 - number);
        }
        long before = room.digest();
        room.rehearsals();
        room.beginOf(0);
        room.endOf(0);
        room.fameOf(0);
        room.famePerQuarter(0);
        room.isBooked(0);
        room.pause();
        room.booked();
        room.bookedFame();
        CHECKS.due("nothing is changed", room.digest(), before);
        room.strike(0);
        CHECKS.due("rehearsals()", room.rehearsals(), 13);
    }

    private static void promise22() {
        RehearsalRoom room = Some.room(0, 1, 50, 0, 96, 1, 10, 13, 1, 10, 17, 50, 0, 8, 10);
        CHECKS.dueBits("famePerQuarter(0)", room.famePerQuarter(0), 50.0f);
        CHECKS.dueBits("famePerQuarter(1)", room.famePerQuarter(1), 0.010416667f);
        CHECKS.dueBits("famePerQuarter(2)", room.famePerQuarter(2), 0.33333334f);
        CHECKS.dueBits("famePerQuarter(3)", room.famePerQuarter(3), 7.142857f);
        CHECKS.dueBits("famePerQuarter(4)", room.famePerQuarter(4), 1.25f);
    }

    private static void promises23To26() {
        RehearsalRoom room = Some.apart(14);
        CHECKS.due("pause()", room.pause(), 0);
        CHECKS.due("booked()", room.booked(), 0);
        CHECKS.due("bookedFame()", room.bookedFame(), 0);
        int fame = 0;
        for (int number = 13; number >= 0; number--) {
            CHECKS.due("isBooked(" + number + ")", room.isBooked(number), false);
            fame += room.fameOf(number);
            room.book(number);
            CHECKS.due("isBooked(" + number + ")", room.isBooked(number), true);
            CHECKS.due("booked()", room.booked(), 14 - number);
            CHECKS.due("bookedFame()", room.bookedFame(), fame);
        }
        room.changePause(1);
        CHECKS.due("pause()", room.pause(), 1);
    }

    private static void noSuchRehearsal(RehearsalRoom room) {
        int[] wrong = {-1, room.rehearsals(), 14, 15, 32, Integer.MAX_VALUE, Integer.MIN_VALUE};
        for (int number : wrong) {
            CHECKS.refusedIndex(room, "beginOf(" + number + ")", () -> room.beginOf(number));
            CHECKS.refusedIndex(room, "endOf(" + number + ")", () -> room.endOf(number));
            CHECKS.refusedIndex(room, "fameOf(" + number + ")", () -> room.fameOf(number));
            CHECKS.refusedIndex(room, "famePerQuarter(" + number + ")", () -> room.famePerQuarter(number));
            CHECKS.refusedIndex(room, "isBooked(" + number + ")", () -> room.isBooked(number));
        }
    }
}
