import java.lang.reflect.InvocationTargetException;
import java.util.ArrayList;
import java.util.List;

/**
 * Calls made by their names, with their answers as texts. A call stands in a row: "add 0 1 1"; MIN and
 * MAX are the least and the greatest int. "type 8-12*5" appends a text, and "6 times: undo" stands for
 * six rows.
 */
final class Calls {

    private static final String THROWS = "throws.";
    private static final String TYPE = "type ";
    private static final String TIMES = " times: ";

    /** The answer, or throws. and the name of the exception. */
    static String answer(Object object, String name, int... arguments) {
        Class<?>[] types = new Class<?>[arguments.length];
        Object[] values = new Object[arguments.length];
        for (int place = 0; place < arguments.length; place++) {
            types[place] = int.class;
            values[place] = arguments[place];
        }
        try {
            return String.valueOf(object.getClass().getMethod(name, types).invoke(object, values));
        } catch (InvocationTargetException thrown) {
            return THROWS + thrown.getCause().getClass().getSimpleName();
        } catch (ReflectiveOperationException missing) {
            return "no such method";
        }
    }

    static String answer(Object object, String call) {
        String[] words = call.split(" ");
        int[] arguments = new int[words.length - 1];
        for (int place = 0; place < arguments.length; place++) {
            arguments[place] = number(words[place + 1]);
        }
        return answer(object, words[0], arguments);
    }

    private static int number(String word) {
        return switch (word) {
            case "MIN" -> Integer.MIN_VALUE;
            case "MAX" -> Integer.MAX_VALUE;
            default -> Integer.parseInt(word);
        };
    }

    static boolean isRefusal(String answer) {
        return answer.startsWith(THROWS);
    }

    /** Makes the calls, and returns the object. */
    static <T> T made(T object, List<String> calls) {
        for (String call : calls) {
            answer(object, call);
        }
        return object;
    }

    /** The rows of a text, each with one call. */
    static List<String> rows(String text) {
        List<String> rows = new ArrayList<>();
        for (String row : text.split("\n")) {
            if (!row.isBlank()) {
                putRow(row.strip(), rows);
            }
        }
        return rows;
    }

    private static void putRow(String row, List<String> rows) {
        int times = row.indexOf(TIMES);
        if (row.startsWith(TYPE)) {
            for (char sign : row.substring(TYPE.length()).toCharArray()) {
                rows.add("append " + (int) sign);
            }
        } else if (times > 0) {
            for (int time = 0; time < Integer.parseInt(row.substring(0, times)); time++) {
                rows.add(row.substring(times + TIMES.length()));
            }
        } else {
            rows.add(row);
        }
    }

    private Calls() {
    }
}
