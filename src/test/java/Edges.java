import java.io.IOException;
import java.nio.file.Files;
import java.nio.file.Path;
import java.util.List;
import java.util.function.Predicate;

/**
 * Boundary cases, each named by its promise's number and the document's sentence. A run of calls is made three times:
 * whole; without the calls that are refused, as these change nothing; and without those that only ask.
 */
final class Edges {
    /** Behind this many calls nothing is promised of an object. */
    private static final int MOST_CALLS = 512;
    private static final Path DOC = Path.of("../shared/DOC.md");
    private static final String ALL_TOLD = """
            told({0..4})
            told({10..35})
            told(1{0..5}{0..3})
            """;
    private static final List<Calls.Call> LAST_LOOK = Calls.of(ALL_TOLD + """
            fault()
            then({0..4})
            went(-1)
            ask({0..1})
            restore(0)
            """ + ALL_TOLD + "restore(1)\n" + ALL_TOLD);

    private final Due due = new Due();
    private final Sentences sentences = new Sentences();
    private String name = "";

    Due due() {
        return due;
    }

    /** Begins a case. */
    void of(int promise, String sentence) {
        name = "promise " + promise + ", \"" + sentence + "\": ";
        sentences.quote(promise, sentence);
    }

    void is(String call, long got, long want) {
        due.is(name + call, got, want);
    }

    /** A case that is a run of calls on a new object. */
    void run(int promise, String sentence, String text) {
        of(promise, sentence);
        List<Calls.Call> calls = Calls.of(text);
        if (calls.size() + LAST_LOOK.size() > MOST_CALLS) {
            throw new IllegalStateException(name + calls.size() + " calls are too many");
        }
        String whole = lastLook(calls, call -> true);
        String unrefused = lastLook(calls, call -> !call.isRefused());
        String changing = lastLook(calls, Calls.Call::changes);
        is("refused calls change nothing", whole.equals(unrefused) ? 1 : 0, 1);
        is("calls that ask change nothing", whole.equals(changing) ? 1 : 0, 1);
    }

    private String lastLook(List<Calls.Call> calls, Predicate<Calls.Call> isMade) {
        SealStrait x = new SealStrait();
        for (int i = 0; i < calls.size(); i++) {
            Calls.Call call = calls.get(i);
            if (isMade.test(call)) {
                long got = call.on(x);
                if (call.due() != null) {
                    is("call " + i + ", " + call.text(), got, call.due());
                }
            }
        }
        StringBuilder all = new StringBuilder();
        for (Calls.Call call : LAST_LOOK) {
            all.append(call.on(x)).append(' ');
        }
        return all.toString();
    }

    /** What the document says and no case has quoted. */
    void end() throws IOException {
        if (Files.isReadable(DOC)) {
            for (String miss : sentences.missesOf(Files.readString(DOC))) {
                due.isTrue(miss, false);
            }
        } else {
            System.out.println("the document is not at " + DOC + ": sentences are not looked up");
        }
        due.end();
    }
}
