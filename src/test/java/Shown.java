import java.util.ArrayList;
import java.util.List;

/** All that the calls of the face show of a room. To ask takes some 250 calls, and leaves another state behind. */
final class Shown {

    private static final String[] OF_THE_WHOLE = {
        "rehearsals", "pause", "booked", "bookedFame", "conflictsByPairs", "conflictsBySweep", "roomsBySweep",
        "roomsByGiving", "bestByTrying", "bestByTable", "bestChoice", "mostRehearsals", "bookedShare",
        "savedStates", "firstError", "digest",
    };
    private static final String[] OF_EACH = {
        "beginOf", "endOf", "fameOf", "famePerQuarter", "isBooked", "conflictsOf", "roomOf", "bestWith",
    };

    private final RehearsalRoom room;
    private final List<String> told = new ArrayList<>();

    private Shown(RehearsalRoom room) {
        this.room = room;
    }

    static List<String> of(RehearsalRoom room) {
        Shown shown = new Shown(room);
        shown.day();
        shown.savedStates();
        shown.slots();
        shown.ask("clearBuffer");
        return shown.told;
    }

    static void dueAlike(Checks checks, String name, List<String> got, List<String> want) {
        for (int row = 0; row < Math.min(got.size(), want.size()); row++) {
            checks.dueText(name, got.get(row), want.get(row));
        }
        checks.due(name + ": rows that are shown", got.size(), want.size());
    }

    private String ask(String name, int... arguments) {
        StringBuilder row = new StringBuilder(name);
        for (int argument : arguments) {
            row.append(' ').append(argument);
        }
        String answer = Calls.answer(room, name, arguments);
        told.add(row.append(" = ").append(answer).toString());
        return answer;
    }

    private void day() {
        for (String name : OF_THE_WHOLE) {
            ask(name);
        }
        int rehearsals = room.rehearsals();
        for (int rehearsal = 0; rehearsal < rehearsals; rehearsal++) {
            for (String name : OF_EACH) {
                ask(name, rehearsal);
            }
            for (int other = 0; other < rehearsal; other++) {
                ask("areInConflict", rehearsal, other);
            }
        }
    }

    private void savedStates() {
        while (!Calls.isRefusal(ask("undo")) && told.size() < 400) {
            ask("digest");
        }
    }

    private void slots() {
        for (int slot = 0; slot < 2; slot++) {
            ask("goBack", slot);
            ask("digest");
        }
    }
}
