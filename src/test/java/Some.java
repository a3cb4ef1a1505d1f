/** Rooms that several tests begin with. */
final class Some {

    /** Numbers that are no number of a rehearsal as long as there are fewer than 14. */
    static int[] wrongNumbers(RehearsalRoom room) {
        return new int[] {-1, room.rehearsals(), 14, 32, Integer.MAX_VALUE, Integer.MIN_VALUE};
    }

    /** A day that is given as begin, end, fame, begin, end, fame and so on. */
    static RehearsalRoom room(int... numbers) {
        RehearsalRoom room = new RehearsalRoom();
        for (int at = 0; at < numbers.length; at += 3) {
            room.add(numbers[at], numbers[at + 1], numbers[at + 2]);
        }
        return room;
    }

    /** So many rehearsals of one quarter, every second quarter, with the fames 1, 2, 3 and so on. */
    static RehearsalRoom apart(int count) {
        RehearsalRoom room = new RehearsalRoom();
        for (int number = 0; number < count; number++) {
            room.add(2 * number, 2 * number + 1, number + 1);
        }
        return room;
    }

    static void type(RehearsalRoom room, String text) {
        for (char sign : text.toCharArray()) {
            room.append(sign);
        }
    }

    private Some() {
    }
}
