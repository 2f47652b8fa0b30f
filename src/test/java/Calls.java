import java.lang.reflect.InvocationTargetException;
import java.lang.reflect.Method;
import java.util.ArrayList;
import java.util.List;
import java.util.Set;

/**
 * Runs of calls told as text, a line each: "herd(0, 99, 1, 9, 11) = 1". Braces stand for several calls,
 * "told(1{0..5}0) = 2" or "who({-1,10}) = UNKNOWN": one answer is due of each of them, or one answer of all.
 * Without "=" any answer is due. "write aA?." makes a text the PAD's whole text; "#" begins a remark.
 */
final class Calls {
    private static final Set<String> CHANGING = Set.of("herd", "clause", "clash", "rock", "say", "wipe", "done",
            "counted", "forget", "image", "restore");

    /** A call that is to be made, and what is due of it (null: anything). */
    record Call(String text, String name, String[] arguments, Long due) {
        boolean isRefused() {
            return due != null && (due <= SealStrait.LOST || due < 0 && due > SealStrait.NONE);
        }

        boolean changes() {
            return CHANGING.contains(name);
        }

        long on(Object strait) {
            try {
                Method method = methodOf(strait.getClass(), name);
                Class<?>[] types = method.getParameterTypes();
                Object[] values = new Object[types.length];
                for (int i = 0; i < types.length; i++) {
                    values[i] = types[i] == boolean.class ? (Object) Boolean.valueOf(arguments[i]) : number(arguments[i]);
                }
                return ((Number) method.invoke(strait, values)).longValue();
            } catch (IllegalAccessException | InvocationTargetException e) {
                throw new IllegalStateException(text + " threw", e.getCause() == null ? e : e.getCause());
            }
        }
    }

    private Calls() {
    }

    static Method methodOf(Class<?> of, String name) {
        for (Method method : of.getDeclaredMethods()) {
            if (method.getName().equals(name)) {
                return method;
            }
        }
        throw new IllegalStateException("no method " + name);
    }

    static List<Call> of(String run) {
        List<Call> calls = new ArrayList<>();
        for (String line : run.split("\n")) {
            String plain = line.strip();
            if (plain.equals("write") || plain.startsWith("write ")) {
                addWriting(calls, plain.substring(5).strip());
            } else if (!plain.isEmpty() && !plain.startsWith("#")) {
                addLine(calls, plain);
            }
        }
        return calls;
    }

    private static void addWriting(List<Call> calls, String text) {
        calls.add(call("wipe()", null));
        for (int i = 0; i < text.length(); i++) {
            calls.add(call("say(" + (int) text.charAt(i) + ")", i + 1L));
        }
    }

    private static void addLine(List<Call> calls, String line) {
        String[] halves = line.split(" = ");
        List<String> texts = spread(halves[0].strip());
        List<Long> answers = halves.length == 1 ? List.of() : answers(halves[1].strip());
        if (answers.size() > 1 && answers.size() != texts.size()) {
            throw new IllegalStateException(texts.size() + " calls, " + answers.size() + " answers: " + line);
        }
        for (int i = 0; i < texts.size(); i++) {
            Long due = answers.isEmpty() ? null : answers.get(answers.size() == 1 ? 0 : i);
            calls.add(call(texts.get(i), due));
        }
    }

    private static Call call(String text, Long due) {
        int open = text.indexOf('(');
        String inside = text.substring(open + 1, text.length() - 1);
        String[] arguments = inside.isEmpty() ? new String[0] : inside.split(", ");
        Call call = new Call(text, text.substring(0, open), arguments, due);
        if (methodOf(SealStrait.class, call.name).getParameterCount() != arguments.length) {
            throw new IllegalStateException("not a call: " + text);
        }
        return call;
    }

    /** Each text that a text with braces stands for, the first brace being the slowest. */
    private static List<String> spread(String text) {
        int open = text.indexOf('{');
        if (open < 0) {
            return List.of(text);
        }
        int close = text.indexOf('}', open);
        List<String> all = new ArrayList<>();
        for (String choice : choices(text.substring(open + 1, close), ",")) {
            all.addAll(spread(text.substring(0, open) + choice + text.substring(close + 1)));
        }
        return all;
    }

    private static List<String> choices(String told, String between) {
        List<String> all = new ArrayList<>();
        for (String choice : told.split(between)) {
            int dots = choice.indexOf("..");
            if (dots < 0) {
                all.add(choice);
                continue;
            }
            int last = number(choice.substring(dots + 2));
            for (int i = number(choice.substring(0, dots)); i <= last; i++) {
                all.add(String.valueOf(i));
            }
        }
        return all;
    }

    private static List<Long> answers(String told) {
        List<Long> all = new ArrayList<>();
        for (String answer : choices(told, " ")) {
            all.add(switch (answer) {
                case "NONE" -> -6L;
                case "UNKNOWN" -> -1L;
                case "OUTSIDE" -> -2L;
                case "STATE" -> -3L;
                case "FULL" -> -4L;
                case "NO" -> -5L;
                case "LOST-OUTSIDE" -> -1000000000000000002L;
                default -> Long.valueOf(answer);
            });
        }
        return all;
    }

    private static int number(String told) {
        return switch (told) {
            case "MIN" -> Integer.MIN_VALUE;
            case "MAX" -> Integer.MAX_VALUE;
            default -> Integer.parseInt(told);
        };
    }
}
