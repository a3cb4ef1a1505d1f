/** Promises 18 to 26: each boundary that they name. */
public final class ReadingEdgesTest {

    private static final Checks CHECKS = new Checks();

    public static void main(String[] args) {
        promise18ZeroTo14();
        Run.dueNoSuchRehearsal(CHECKS, "promise 19", "beginOf");
        Run.dueNoSuchRehearsal(CHECKS, "promise 20", "endOf");
        Run.dueNoSuchRehearsal(CHECKS, "promise 21", "fameOf");
        Run.dueNoSuchRehearsal(CHECKS, "promise 22", "famePerQuarter");
        Run.dueNoSuchRehearsal(CHECKS, "promise 23", "isBooked");
        promise19LeastAndGreatest();
        promise20LeastAndGreatest();
        promise21LeastAndGreatest();
        promise22LeastAndGreatest();
        promise22EachFameAndLength();
        promise23BookedOrNot();
        promise24ZeroTo8();
        promise25NoneToAll();
        promise26NoneToAll();
        CHECKS.end();
    }

    private static void promise18ZeroTo14() {
        Run.due(CHECKS, "promise 18: 0 to 14", """
                rehearsals = 0
                add 0 1 1 = 0
                rehearsals = 1
                12 times: add 0 1 1
                rehearsals = 13
                add 0 1 1 = 13
                rehearsals = 14
                add 0 1 1 = throws.IllegalStateException
                rehearsals = 14
                strike 13 = 1
                rehearsals = 13
                13 times: strike 0
                rehearsals = 0
                strike 0 = throws.IndexOutOfBoundsException
                rehearsals = 0
                """);
    }

    private static void promise19LeastAndGreatest() {
        Run.due(CHECKS, "promise 19: the quarter of the begin", """
                add 0 96 1
                add 95 96 1
                beginOf 0 = 0
                beginOf 1 = 95
                """);
    }

    private static void promise20LeastAndGreatest() {
        Run.due(CHECKS, "promise 20: the quarter of the end", """
                add 0 1 1
                add 0 96 1
                endOf 0 = 1
                endOf 1 = 96
                """);
    }

    private static void promise21LeastAndGreatest() {
        Run.due(CHECKS, "promise 21: the fame", """
                add 8 12 1
                add 8 12 50
                fameOf 0 = 1
                fameOf 1 = 50
                """);
    }

    private static void promise22LeastAndGreatest() {
        Run.due(CHECKS, "promise 22: the fame for each quarter", """
                add 0 96 1
                add 0 1 50
                add 0 96 50
                add 0 1 1
                famePerQuarter 0 = 0.010416667
                famePerQuarter 1 = 50.0
                famePerQuarter 2 = 0.5208333
                famePerQuarter 3 = 1.0
                move 3 5 8
                famePerQuarter 3 = 0.33333334
                """);
    }

    private static void promise22EachFameAndLength() {
        for (int length = 1; length <= 96; length++) {
            RehearsalRoom room = Some.room(96 - length, 96, 1);
            for (int fame = 1; fame <= 50; fame++) {
                room.changeFame(0, fame);
                CHECKS.dueBits("promise 22: fame " + fame + " in " + length + " quarters",
                        room.famePerQuarter(0), (float) fame / length);
            }
        }
    }

    private static void promise23BookedOrNot() {
        Run.due(CHECKS, "promise 23: booked or not", """
                add 8 12 7
                12 times: add 40 50 1
                add 12 20 5
                isBooked 0 = false
                isBooked 13 = false
                book 13 = 5
                isBooked 0 = false
                isBooked 12 = false
                isBooked 13 = true
                book 0 = 12
                isBooked 0 = true
                isBooked 1 = false
                cancel 13 = 7
                isBooked 13 = false
                """);
    }

    private static void promise24ZeroTo8() {
        for (int pause = 0; pause <= 8; pause++) {
            RehearsalRoom room = new RehearsalRoom();
            CHECKS.due("promise 24: the pause at first", room.pause(), 0);
            room.changePause(pause);
            CHECKS.due("promise 24: the pause", room.pause(), pause);
        }
    }

    private static void promise25NoneToAll() {
        Run.due(CHECKS, "promise 25: booked, none to all", """
                booked = 0
                13 times: add 0 1 1
                add 1 2 1
                booked = 0
                book 0 = 1
                booked = 1
                book 13 = 2
                booked = 2
                strike 13
                booked = 1
                cancel 0 = 0
                booked = 0
                """);
        RehearsalRoom room = Some.apart(14);
        room.bookBest();
        CHECKS.due("promise 25: 14 booked", room.booked(), 14);
    }

    private static void promise26NoneToAll() {
        RehearsalRoom room = new RehearsalRoom();
        CHECKS.due("promise 26: without rehearsals", room.bookedFame(), 0);
        for (int number = 0; number < 14; number++) {
            room.add(number, number + 1, 50);
        }
        CHECKS.due("promise 26: none booked", room.bookedFame(), 0);
        room.bookBest();
        CHECKS.due("promise 26: all booked", room.bookedFame(), 700);
        room.changeFame(13, 1);
        CHECKS.due("promise 26: of another fame", room.bookedFame(), 651);
    }
}
