import java.io.IOException;
import java.nio.charset.StandardCharsets;
import java.nio.file.Files;
import java.nio.file.Path;
import java.util.ArrayList;
import java.util.Arrays;
import java.util.List;

/** A sentence of the document that is tested on its own: what goes wrong is told with its words. */
final class Sentence {
    private static final List<Sentence> NAMED = new ArrayList<>();

    private final int promise;
    private final String words;

    Sentence(int promise, String words) {
        this.promise = promise;
        this.words = words;
        NAMED.add(this);
    }

    /** A new object: no test uses one for more calls than the document promises something for. */
    Desk desk() {
        return new Desk("promise " + promise + ", \"" + words + "\"");
    }

    Desk city(String text) {
        Desk d = desk();
        d.due("fault(0) of a city that has none, " + text, d.tell(text) == NineSaints.NONE ? d.x.fault(0) : 0, 0);
        return d;
    }

    void good(String text, int statements) {
        Desk d = desk();
        d.due("city of " + text, d.tell(text), statements);
        d.due("fault(0) of " + text, d.x.fault(0), 0);
        d.due("fault(1) of " + text, d.x.fault(1), NineSaints.NONE);
    }

    /** The fault is where the sign ^ stands in the text, which is told without it. */
    void faulty(int kind, String marked) {
        int place = marked.indexOf('^');
        desk().fault(marked.substring(0, place) + marked.substring(place + 1), kind, place);
    }

    private static String plain(String text) {
        return text.replaceAll("\\s+", " ").trim();
    }

    /** What the document says in sentences: its headings, its face and the like are none. */
    private static List<String> paragraphs(Path document) throws IOException {
        List<String> found = new ArrayList<>();
        String text = Files.readString(document, StandardCharsets.UTF_8);
        int last = text.indexOf("## Not promised");
        String said = text.substring(0, last < 0 ? text.length() : last).replaceAll("(?s)```java.*?```", "");
        for (String line : said.split("\n")) {
            if (!line.startsWith("#") && !line.startsWith("```") && !line.startsWith("Ahead of the calls")
                    && !line.startsWith("The parade must never")) {
                found.add(plain(line.replaceFirst("^`[^`]*`: ", "").replaceFirst("^(I|II|III)\\. ", "")));
            }
        }
        return found;
    }

    private static boolean mark(String paragraph, boolean[] named, String words) {
        int at = paragraph.indexOf(words);
        for (int from = at; from >= 0; from = paragraph.indexOf(words, from + 1)) {
            Arrays.fill(named, from, from + words.length(), true);
        }
        return at >= 0;
    }

    private static String unnamed(String paragraph, boolean[] named) {
        StringBuilder left = new StringBuilder();
        for (int i = 0; i < named.length; i++) {
            if (!named[i] && Character.isLetterOrDigit(paragraph.charAt(i))) {
                left.append(paragraph.charAt(i));
            }
        }
        return left.toString();
    }

    /** Whether the document says all sentences that are named, and all that it says is named. */
    static boolean areThoseOf(Path document) throws IOException {
        List<String> paragraphs = paragraphs(document);
        List<boolean[]> named = new ArrayList<>();
        for (String paragraph : paragraphs) {
            named.add(new boolean[paragraph.length()]);
        }
        boolean good = true;
        for (Sentence sentence : NAMED) {
            boolean said = false;
            for (int i = 0; i < paragraphs.size(); i++) {
                said |= mark(paragraphs.get(i), named.get(i), plain(sentence.words));
            }
            if (!said) {
                System.out.println("the document does not say: " + sentence.words);
                good = false;
            }
        }
        for (int i = 0; i < paragraphs.size(); i++) {
            String left = unnamed(paragraphs.get(i), named.get(i));
            if (!left.isEmpty()) {
                System.out.println("no test names \"" + left + "\" of: " + paragraphs.get(i));
                good = false;
            }
        }
        System.out.println(NAMED.size() + " sentences");
        return good;
    }
}
