import java.lang.reflect.InvocationTargetException;
import java.lang.reflect.Method;
import java.util.ArrayList;
import java.util.Arrays;
import java.util.List;

/**
 * A run of calls on a new object, told as text, with the answers that are due (a boolean counts 1 or 0):
 *
 * <pre>
 * put(3, 0, 15, 0, 0) = 1      a call and its answer; a call without one is only made
 * row(3, 0..2|4) = 0 15 0 1    one call for each number told by a .. b or p | q, with an answer each
 * end(-1|MIN) = -1             or with one answer for all of them
 * define by a+b = 0            a text, put on the empty tape; {10} is the byte 10
 * text by a+b                  the text alone
 * faults by a+ = 1 5           a new object's FAULT of a text, and its place
 * blanks 3                     feed() of twenty blanks, three times
 * calm                         ROOM is 12, FAN is 4
 * lay 3 4                      a FLUSH of one put, KEY 3, a 4
 * twenty                       20 RUNS of the TABLE and of INDEX 0, more than two of one LEVEL nowhere together
 * new                          another new object
 * </pre>
 */
final class Script {
    private LateIndexes x = new LateIndexes();

    static void run(String calls) {
        Script script = new Script();
        for (String line : calls.split("\n")) {
            boolean isText = line.strip().matches("(text|define|faults)\\b.*");
            for (String one : isText ? new String[] {line} : line.split(";")) {
                if (!one.isBlank()) {
                    script.statement(one.strip());
                }
            }
        }
    }

    private void statement(String told) {
        String word = told.split("[ (]")[0];
        String rest = told.substring(word.length()).strip();
        switch (word) {
            case "new" -> x = new LateIndexes();
            case "calm" -> calm();
            case "blanks" -> blanks(Integer.parseInt(rest));
            case "lay" -> lay(rest.split(" "));
            case "twenty" -> twenty();
            case "text" -> Tape.put(x, emptied(rest));
            case "define" -> {
                if (rest.startsWith("(")) {
                    call(told);
                } else {
                    Tape.put(x, emptied(ahead(rest)));
                    Checks.same(told, x.define(), behind(rest)[0]);
                }
            }
            case "faults" -> faults(rest);
            default -> call(told);
        }
    }

    private void calm() {
        x.set(0, 12);
        x.set(1, 4);
    }

    private void blanks(int times) {
        for (int i = 0; i < times; i++) {
            x.feed(0x20202020, 0x20202020, 0x20202020, 0x20202020, 0x20202020);
        }
    }

    private void lay(String[] numbers) {
        x.put(number(numbers[0]), number(numbers[1]), 0, 0, 0);
        x.flush();
    }

    private void twenty() {
        calm();
        for (int i = 0; i < 29; i++) {
            lay(new String[] {"" + i, "" + i % 16});
            if (i % 3 == 2) {
                x.merge(-1, 0, 2);
                x.merge(0, 0, 2);
            }
        }
    }

    private void faults(String rest) {
        long[] due = behind(rest);
        String text = emptied(ahead(rest));
        x = new LateIndexes();
        Tape.put(x, text);
        Checks.same("define of " + text, x.define(), due[0] == 0 ? 0 : -1);
        Checks.same("fault(0) of " + text, x.fault(0), due[0]);
        Checks.same("fault(1) of " + text, x.fault(1), due[1]);
    }

    /** A text with its bytes by number; the tape is emptied for it. */
    private String emptied(String told) {
        x.end(0);
        StringBuilder text = new StringBuilder();
        for (int i = 0; i < told.length(); i++) {
            char c = told.charAt(i);
            if (c == '{') {
                int end = told.indexOf('}', i);
                c = (char) Integer.parseInt(told.substring(i + 1, end));
                i = end;
            }
            text.append(c);
        }
        return text.toString();
    }

    private static String ahead(String told) {
        return told.startsWith("= ") ? "" : told.substring(0, told.lastIndexOf(" = "));
    }

    private static long[] behind(String told) {
        int sign = told.lastIndexOf("= ");
        if (sign < 0) {
            throw new IllegalStateException("no answer is told: " + told);
        }
        String numbers = told.substring(sign + 2).strip();
        return Arrays.stream(numbers.split(" +")).mapToLong(Script::number).toArray();
    }

    private static int number(String told) {
        return switch (told.strip()) {
            case "MIN" -> Integer.MIN_VALUE;
            case "MAX" -> Integer.MAX_VALUE;
            case "NONE" -> LateIndexes.NONE;
            default -> Long.decode(told.strip()).intValue();
        };
    }

    private void call(String told) {
        int open = told.indexOf('(');
        int close = told.indexOf(')');
        String name = told.substring(0, open);
        List<int[]> all = expanded(told.substring(open + 1, close).strip());
        String rest = told.substring(close + 1).strip();
        long[] due = rest.isEmpty() ? new long[0] : behind(rest);
        if (due.length > 1 && due.length != all.size()) {
            throw new IllegalStateException(told + ": " + all.size() + " calls, " + due.length + " answers");
        }
        for (int i = 0; i < all.size(); i++) {
            long got = answer(name, all.get(i));
            if (due.length > 0) {
                String one = name + Arrays.toString(all.get(i)) + " of " + told;
                Checks.same(one, got, due[due.length > 1 ? i : 0]);
            }
        }
    }

    private static List<int[]> expanded(String arguments) {
        List<int[]> all = new ArrayList<>();
        all.add(new int[0]);
        if (arguments.isEmpty()) {
            return all;
        }
        for (String argument : arguments.split(",")) {
            List<int[]> longer = new ArrayList<>();
            for (int[] one : all) {
                for (int number : numbers(argument.strip())) {
                    int[] more = Arrays.copyOf(one, one.length + 1);
                    more[one.length] = number;
                    longer.add(more);
                }
            }
            all = longer;
        }
        return all;
    }

    private static List<Integer> numbers(String argument) {
        List<Integer> all = new ArrayList<>();
        for (String part : argument.split("\\|")) {
            int dots = part.indexOf("..");
            if (dots < 0) {
                all.add(number(part));
            } else {
                for (int n = number(part.substring(0, dots)); n <= number(part.substring(dots + 2)); n++) {
                    all.add(n);
                }
            }
        }
        return all;
    }

    private long answer(String name, int[] numbers) {
        for (Method m : LateIndexes.class.getMethods()) {
            if (m.getName().equals(name) && m.getParameterCount() == numbers.length) {
                return answer(m, numbers);
            }
        }
        throw new IllegalStateException("no such call: " + name + " of " + numbers.length);
    }

    private long answer(Method m, int[] numbers) {
        Object[] arguments = new Object[numbers.length];
        for (int i = 0; i < numbers.length; i++) {
            boolean isTruth = m.getParameterTypes()[i] == boolean.class;
            arguments[i] = isTruth ? (Object) (numbers[i] != 0) : (Object) numbers[i];
        }
        try {
            Object got = m.invoke(x, arguments);
            return got instanceof Boolean ? ((Boolean) got ? 1 : 0) : (Integer) got;
        } catch (IllegalAccessException | InvocationTargetException thrown) {
            throw new IllegalStateException(m.getName() + " threw", thrown);
        }
    }
}
