import java.util.ArrayList;
import java.util.List;

/** Which of the document's sentences are quoted by a case, and whether each quote stands in it. */
final class Sentences {
    private static final int PROMISES = 28;

    private record Quote(int promise, String text) {
    }

    private final List<Quote> quotes = new ArrayList<>();

    void quote(int promise, String text) {
        quotes.add(new Quote(promise, text));
    }

    /** Each quote that is not there, and each part of the terms and of the promises that no quote has. */
    List<String> missesOf(String doc) {
        List<String> misses = new ArrayList<>();
        String terms = part(doc, "## Terms", "Ahead of the calls").replaceAll("=+ \\d|```(text)?", "");
        boolean[] quotedTerms = new boolean[plain(terms).length()];
        boolean[] stands = new boolean[quotes.size()];
        mark(plain(terms), quotedTerms, stands, 0);
        for (int promise = 1; promise <= PROMISES; promise++) {
            // Behind the head and the method's line stands what is promised.
            String text = plain(part(part(doc, "## Promise " + promise + ":", "## "), "`: ", "\n"));
            boolean[] quoted = new boolean[text.length()];
            mark(text, quoted, stands, promise);
            addUnquoted(misses, "promise " + promise, text, quoted);
        }
        addUnquoted(misses, "the terms", plain(terms), quotedTerms);
        for (int i = 0; i < stands.length; i++) {
            if (!stands[i]) {
                misses.add("promise " + quotes.get(i).promise + " does not say \"" + quotes.get(i).text + "\"");
            }
        }
        return misses;
    }

    private static String part(String doc, String from, String to) {
        int begin = doc.indexOf(from);
        if (begin < 0) {
            return "";
        }
        begin += from.length();
        int end = doc.indexOf(to, begin);
        return doc.substring(begin, end < 0 ? doc.length() : end);
    }

    private static String plain(String text) {
        return text.replaceAll("\\s+", " ");
    }

    /** Of promise 0 (the terms) all quotes can be. */
    private void mark(String text, boolean[] quoted, boolean[] stands, int promise) {
        for (int q = 0; q < quotes.size(); q++) {
            Quote quote = quotes.get(q);
            int place = promise == 0 || promise == quote.promise ? text.indexOf(quote.text) : -1;
            for (int i = 0; place >= 0 && i < quote.text.length(); i++) {
                quoted[place + i] = true;
            }
            stands[q] |= place >= 0;
        }
    }

    private static void addUnquoted(List<String> misses, String where, String text, boolean[] quoted) {
        StringBuilder rest = new StringBuilder();
        for (int i = 0; i <= text.length(); i++) {
            if (i < text.length() && !quoted[i]) {
                rest.append(text.charAt(i));
            } else if (rest.length() > 0) {
                // A bare "and" between two quotes says nothing by itself.
                if (!rest.toString().matches("\\W*(and)?\\W*")) {
                    misses.add("no case quotes \"" + rest.toString().strip() + "\" of " + where);
                }
                rest.setLength(0);
            }
        }
    }
}
