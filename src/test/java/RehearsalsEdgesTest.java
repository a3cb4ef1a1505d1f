/** Promises 1 to 6: each boundary that they name. */
public final class RehearsalsEdgesTest {

    private static final Checks CHECKS = new Checks();

    public static void main(String[] args) {
        promise1NoRehearsalsEmptySlotsEmptyBuffer();
        promise2Begin();
        promise2End();
        promise2EachBeginAndEnd();
        promise2Fame();
        promise2FourteenRehearsals();
        promise3NoSuchRehearsal();
        promise3BookedOrNot();
        promise3LaterNumbersAreOneLess();
        promise4NoSuchRehearsal();
        promise4BeginAndEnd();
        promise4EachBeginAndEnd();
        promise4Quarters();
        promise4Conflict();
        promise4ConflictAtEachPause();
        promise5NoSuchRehearsal();
        promise5Fame();
        promise6Quarters();
        promise6ConflictAtEachPause();
        CHECKS.end();
    }

    private static void promise1NoRehearsalsEmptySlotsEmptyBuffer() {
        Run.due(CHECKS, "promise 1: a new object", """
                rehearsals = 0
                pause = 0
                booked = 0
                bookedFame = 0
                bookedShare = 0.0
                savedStates = 0
                conflictsByPairs = 0
                conflictsBySweep = 0
                roomsBySweep = 0
                roomsByGiving = 0
                bestByTrying = 0
                bestByTable = 0
                bestChoice = 0
                mostRehearsals = 0
                firstError = 0
                beginOf 0 = throws.IndexOutOfBoundsException
                undo = throws.IllegalStateException
                goBack 0 = throws.IllegalStateException
                goBack 1 = throws.IllegalStateException
                read = throws.IllegalArgumentException
                clearBuffer = 0
                append 33 = 1
                """);
        RehearsalRoom one = new RehearsalRoom();
        RehearsalRoom other = new RehearsalRoom();
        one.add(0, 1, 1);
        one.keep(0);
        one.append(48);
        Shown.dueAlike(CHECKS, "promise 1: another new object", Shown.of(other), Shown.of(new RehearsalRoom()));
    }

    private static void promise2Begin() {
        Run.due(CHECKS, "promise 2: begin, 0 to 95", """
                add MIN 1 1 = throws.IllegalArgumentException
                add -1 1 1 = throws.IllegalArgumentException
                add 0 1 1 = 0
                add 95 96 1 = 1
                add 96 96 1 = throws.IllegalArgumentException
                add 96 97 1 = throws.IllegalArgumentException
                add MAX 96 1 = throws.IllegalArgumentException
                add MAX MIN 1 = throws.IllegalArgumentException
                add MAX MAX 1 = throws.IllegalArgumentException
                add MIN MIN 1 = throws.IllegalArgumentException
                beginOf 0 = 0
                beginOf 1 = 95
                rehearsals = 2
                """);
    }

    private static void promise2End() {
        Run.due(CHECKS, "promise 2: end, begin and 1, together, up to 96", """
                add 40 MIN 1 = throws.IllegalArgumentException
                add 40 0 1 = throws.IllegalArgumentException
                add 40 39 1 = throws.IllegalArgumentException
                add 40 40 1 = throws.IllegalArgumentException
                add 40 41 1 = 0
                add 40 96 1 = 1
                add 40 97 1 = throws.IllegalArgumentException
                add 40 MAX 1 = throws.IllegalArgumentException
                add 0 0 1 = throws.IllegalArgumentException
                add 95 95 1 = throws.IllegalArgumentException
                add 95 97 1 = throws.IllegalArgumentException
                endOf 0 = 41
                endOf 1 = 96
                rehearsals = 2
                """);
    }

    private static void promise2EachBeginAndEnd() {
        for (int begin = -2; begin <= 98; begin++) {
            for (int end = -2; end <= 99; end++) {
                RehearsalRoom room = new RehearsalRoom();
                String call = "add " + begin + " " + end + " 1";
                CHECKS.dueText("promise 2: " + call, Calls.answer(room, call),
                        inTheDay(begin, end) ? "0" : "throws.IllegalArgumentException");
                CHECKS.due("promise 2: taken on by " + call, room.rehearsals(), inTheDay(begin, end) ? 1 : 0);
            }
        }
    }

    private static boolean inTheDay(int begin, int end) {
        return begin >= 0 && begin <= 95 && end >= begin + 1 && end <= 96;
    }

    private static void promise2Fame() {
        Run.due(CHECKS, "promise 2: fame, 1 to 50", """
                add 8 12 MIN = throws.IllegalArgumentException
                add 8 12 -1 = throws.IllegalArgumentException
                add 8 12 0 = throws.IllegalArgumentException
                add 8 12 1 = 0
                add 8 12 50 = 1
                add 8 12 51 = throws.IllegalArgumentException
                add 8 12 MAX = throws.IllegalArgumentException
                fameOf 0 = 1
                fameOf 1 = 50
                rehearsals = 2
                """);
    }

    private static void promise2FourteenRehearsals() {
        Run.due(CHECKS, "promise 2: 14 rehearsals", """
                add 0 1 1 = 0
                12 times: add 0 96 50
                add 95 96 50 = 13
                savedStates = 6
                add 0 1 1 = throws.IllegalStateException
                add 95 96 50 = throws.IllegalStateException
                add -1 1 1 = throws.IllegalArgumentException
                add 96 97 1 = throws.IllegalArgumentException
                add 0 0 1 = throws.IllegalArgumentException
                add 0 97 1 = throws.IllegalArgumentException
                add 0 1 0 = throws.IllegalArgumentException
                add 0 1 51 = throws.IllegalArgumentException
                rehearsals = 14
                endOf 13 = 96
                undo
                add 3 4 5 = 13
                """);
    }

    private static void promise3NoSuchRehearsal() {
        Run.due(CHECKS, "promise 3: no such rehearsal", """
                strike 0 = throws.IndexOutOfBoundsException
                add 0 1 7 = 0
                strike MIN = throws.IndexOutOfBoundsException
                strike -1 = throws.IndexOutOfBoundsException
                strike 1 = throws.IndexOutOfBoundsException
                strike MAX = throws.IndexOutOfBoundsException
                strike 0 = 7
                strike 0 = throws.IndexOutOfBoundsException
                rehearsals = 0
                """);
        Run.due(CHECKS, "promise 3: of a full day", """
                13 times: add 0 1 7
                add 2 3 9 = 13
                strike 14 = throws.IndexOutOfBoundsException
                strike 13 = 9
                strike 13 = throws.IndexOutOfBoundsException
                strike 0 = 7
                strike 12 = throws.IndexOutOfBoundsException
                rehearsals = 12
                """);
    }

    private static void promise3BookedOrNot() {
        Run.due(CHECKS, "promise 3: booked or not", """
                add 0 1 7 = 0
                add 2 3 8 = 1
                book 0 = 7
                book 1 = 15
                strike 0 = 7
                booked = 1
                bookedFame = 8
                isBooked 0 = true
                add 0 1 7 = 1
                isBooked 1 = false
                strike 1 = 7
                booked = 1
                strike 0 = 8
                booked = 0
                bookedFame = 0
                add 0 1 7 = 0
                isBooked 0 = false
                """);
    }

    /** Out of full days, of which the even, the odd, all or none are booked. */
    private static void promise3LaterNumbersAreOneLess() {
        int all = (1 << 14) - 1;
        for (int bookings : new int[] {0x5555 & all, 0xAAAA & all, all, 0}) {
            for (int struck = 0; struck < 14; struck++) {
                RehearsalRoom room = Some.apart(14);
                for (int number = 0; number < 14; number++) {
                    if ((bookings >> number & 1) == 1) {
                        room.book(number);
                    }
                }
                CHECKS.due("promise 3: strike(" + struck + ")", room.strike(struck), struck + 1);
                dueWithout(room, struck, bookings);
            }
        }
    }

    private static void dueWithout(RehearsalRoom room, int struck, int bookings) {
        String name = "promise 3: without " + struck + ": ";
        CHECKS.due(name + "rehearsals()", room.rehearsals(), 13);
        for (int number = 0; number < 13; number++) {
            int before = number < struck ? number : number + 1;
            CHECKS.due(name + "beginOf(" + number + ")", room.beginOf(number), 2 * before);
            CHECKS.due(name + "endOf(" + number + ")", room.endOf(number), 2 * before + 1);
            CHECKS.due(name + "fameOf(" + number + ")", room.fameOf(number), before + 1);
            CHECKS.due(name + "isBooked(" + number + ")", room.isBooked(number), (bookings >> before & 1) == 1);
        }
    }

    private static void promise4NoSuchRehearsal() {
        Run.due(CHECKS, "promise 4: no such rehearsal", """
                move 0 8 12 = throws.IndexOutOfBoundsException
                move 0 -1 0 = throws.IndexOutOfBoundsException
                add 8 12 7 = 0
                move MIN 8 12 = throws.IndexOutOfBoundsException
                move -1 8 12 = throws.IndexOutOfBoundsException
                move 1 8 12 = throws.IndexOutOfBoundsException
                move MAX 8 12 = throws.IndexOutOfBoundsException
                move 1 96 97 = throws.IndexOutOfBoundsException
                move 1 8 8 = throws.IndexOutOfBoundsException
                move MIN MIN MIN = throws.IndexOutOfBoundsException
                move MAX MAX MAX = throws.IndexOutOfBoundsException
                13 times: add 8 12 7
                move 14 8 12 = throws.IndexOutOfBoundsException
                move 13 8 13 = 1
                endOf 13 = 13
                """);
    }

    private static void promise4BeginAndEnd() {
        Run.due(CHECKS, "promise 4: begin, 0 to 95, and end, begin and 1, together, up to 96", """
                add 8 12 7 = 0
                move 0 MIN 12 = throws.IllegalArgumentException
                move 0 -1 12 = throws.IllegalArgumentException
                move 0 96 97 = throws.IllegalArgumentException
                move 0 96 96 = throws.IllegalArgumentException
                move 0 MAX 12 = throws.IllegalArgumentException
                move 0 MAX MIN = throws.IllegalArgumentException
                move 0 8 MIN = throws.IllegalArgumentException
                move 0 8 7 = throws.IllegalArgumentException
                move 0 8 8 = throws.IllegalArgumentException
                move 0 8 97 = throws.IllegalArgumentException
                move 0 8 MAX = throws.IllegalArgumentException
                move 0 0 0 = throws.IllegalArgumentException
                move 0 95 97 = throws.IllegalArgumentException
                beginOf 0 = 8
                endOf 0 = 12
                move 0 0 1 = -3
                move 0 95 96 = 0
                beginOf 0 = 95
                endOf 0 = 96
                """);
    }

    private static void promise4EachBeginAndEnd() {
        for (int begin = -2; begin <= 98; begin++) {
            for (int end = -2; end <= 99; end++) {
                RehearsalRoom room = Some.room(8, 12, 7);
                String call = "move 0 " + begin + " " + end;
                CHECKS.dueText("promise 4: " + call, Calls.answer(room, call),
                        inTheDay(begin, end) ? String.valueOf(end - begin - 4) : "throws.IllegalArgumentException");
                CHECKS.due("promise 4: begin behind " + call, room.beginOf(0), inTheDay(begin, end) ? begin : 8);
                CHECKS.due("promise 4: end behind " + call, room.endOf(0), inTheDay(begin, end) ? end : 12);
            }
        }
    }

    private static void promise4Quarters() {
        Run.due(CHECKS, "promise 4: how many quarters it became longer, below 0 if it became shorter", """
                add 0 1 7 = 0
                move 0 0 96 = 95
                move 0 95 96 = -95
                move 0 95 96 = 0
                move 0 0 1 = 0
                move 0 0 2 = 1
                move 0 1 2 = -1
                savedStates = 6
                """);
    }

    private static void promise4Conflict() {
        Run.due(CHECKS, "promise 4: booked, and in conflict with another one that is booked", """
                add 10 20 1 = 0
                add 30 40 2 = 1
                add 50 60 3 = 2
                move 0 35 36 = -9
                move 0 10 20 = 9
                book 1 = 2
                move 0 35 36 = -9
                move 0 10 20 = 9
                book 0 = 3
                move 0 35 36 = throws.IllegalStateException
                move 0 0 31 = throws.IllegalStateException
                move 0 39 96 = throws.IllegalStateException
                move 1 19 20 = throws.IllegalStateException
                move 0 30 30 = throws.IllegalArgumentException
                move 0 30 97 = throws.IllegalArgumentException
                move 3 30 40 = throws.IndexOutOfBoundsException
                move 0 0 30 = 20
                move 0 40 96 = 26
                move 0 41 95 = -2
                move 2 30 40 = 0
                cancel 1 = 1
                move 0 30 40 = -44
                isBooked 0 = true
                """);
    }

    /** A booked one of 4 quarters is moved up to another one that is booked, from either side. */
    private static void promise4ConflictAtEachPause() {
        for (int pause = 0; pause <= 8; pause++) {
            for (int gap = -1; gap <= 9; gap++) {
                RehearsalRoom room = Some.room(0, 4, 1, 40, 50, 2, 41, 42, 3);
                room.changePause(pause);
                room.book(0);
                room.book(1);
                String want = gap < pause ? "throws.IllegalStateException" : "0";
                String ahead = "move 0 " + (36 - gap) + " " + (40 - gap);
                String behind = "move 0 " + (50 + gap) + " " + (54 + gap);
                CHECKS.dueText("promise 4: pause " + pause + ", " + ahead, Calls.answer(room, ahead), want);
                CHECKS.dueText("promise 4: pause " + pause + ", " + behind, Calls.answer(room, behind), want);
                CHECKS.due("promise 4: beginOf(0)", room.beginOf(0), gap < pause ? 0 : 50 + gap);
            }
        }
    }

    private static void promise5NoSuchRehearsal() {
        Run.due(CHECKS, "promise 5: no such rehearsal", """
                changeFame 0 7 = throws.IndexOutOfBoundsException
                changeFame 0 0 = throws.IndexOutOfBoundsException
                add 8 12 7 = 0
                changeFame MIN 7 = throws.IndexOutOfBoundsException
                changeFame -1 7 = throws.IndexOutOfBoundsException
                changeFame 1 7 = throws.IndexOutOfBoundsException
                changeFame MAX 7 = throws.IndexOutOfBoundsException
                changeFame 1 0 = throws.IndexOutOfBoundsException
                changeFame -1 51 = throws.IndexOutOfBoundsException
                13 times: add 8 12 7
                changeFame 14 7 = throws.IndexOutOfBoundsException
                changeFame 13 8 = 7
                fameOf 13 = 8
                fameOf 12 = 7
                """);
    }

    private static void promise5Fame() {
        Run.due(CHECKS, "promise 5: fame, 1 to 50", """
                add 8 12 7 = 0
                changeFame 0 MIN = throws.IllegalArgumentException
                changeFame 0 -1 = throws.IllegalArgumentException
                changeFame 0 0 = throws.IllegalArgumentException
                changeFame 0 51 = throws.IllegalArgumentException
                changeFame 0 MAX = throws.IllegalArgumentException
                fameOf 0 = 7
                changeFame 0 1 = 7
                changeFame 0 50 = 1
                changeFame 0 50 = 50
                savedStates = 4
                book 0 = 50
                changeFame 0 2 = 50
                bookedFame = 2
                """);
    }

    private static void promise6Quarters() {
        Run.due(CHECKS, "promise 6: quarters, 0 to 8", """
                changePause MIN = throws.IllegalArgumentException
                changePause -1 = throws.IllegalArgumentException
                changePause 9 = throws.IllegalArgumentException
                changePause MAX = throws.IllegalArgumentException
                changePause 0 = 0
                changePause 8 = 0
                changePause 8 = 8
                changePause 0 = 8
                savedStates = 4
                add 0 1 1 = 0
                add 1 2 1 = 1
                book 0 = 1
                changePause 8 = 0
                changePause 0 = 8
                book 1 = 2
                changePause 0 = 0
                changePause 1 = throws.IllegalStateException
                changePause 8 = throws.IllegalStateException
                changePause 9 = throws.IllegalArgumentException
                changePause -1 = throws.IllegalArgumentException
                pause = 0
                """);
    }

    /** Two that are booked, with a gap between them, and one in the gap that is not; the earlier one first, and last. */
    private static void promise6ConflictAtEachPause() {
        for (int gap = 0; gap <= 9; gap++) {
            for (int pause = 0; pause <= 8; pause++) {
                String call = "changePause " + pause;
                String want = pause > gap ? "throws.IllegalStateException" : "0";
                RehearsalRoom first = Some.room(10, 20, 1, 20 + gap, 40, 2, 15, 25, 3);
                RehearsalRoom last = Some.room(20 + gap, 40, 2, 15, 25, 3, 10, 20, 1);
                first.book(0);
                first.book(1);
                last.book(2);
                last.book(0);
                CHECKS.dueText("promise 6: gap " + gap + ", " + call, Calls.answer(first, call), want);
                CHECKS.dueText("promise 6: gap " + gap + ", " + call, Calls.answer(last, call), want);
                CHECKS.due("promise 6: pause()", last.pause(), pause > gap ? 0 : pause);
            }
        }
    }
}
