import java.io.IOException;
import java.nio.file.Files;
import java.nio.file.Path;

/** Each sentence of the document's Terms and promises is quoted by a test, and each quote stands there. */
public final class SentencesTest {
    private static final Check CHECK = new Check("SentencesTest");
    private static final int PROMISES = 45;

    public static void main(String[] args) throws IOException {
        Path doc = Path.of(System.getProperty("doc.text", "../shared/DOC.md"));
        Sentences listed = listed();
        String[] sections = sections(Files.readString(doc));
        StringBuilder[] left = new StringBuilder[sections.length];
        for (int i = 0; i < sections.length; i++) {
            left[i] = new StringBuilder(sections[i]);
        }
        for (int i = 0; i < listed.size(); i++) {
            takeOut(listed.quote(i), listed.place(i), sections, left);
        }
        for (int i = 0; i < sections.length; i++) {
            CHECK.holds("section " + i + " is quoted whole, but '" + left[i].toString().trim() + "'",
                i == 0 || !left[i].toString().matches("(?s).*[A-Za-z0-9].*"));
        }
        CHECK.end();
    }

    /** All that is quoted, without its tests. */
    private static Sentences listed() {
        Sentences all = new Sentences(null);
        EdgesOfCityTest.all(all);
        EdgesOfTapeTest.all(all);
        EdgesOfStepsTest.all(all);
        EdgesOfTriedTest.all(all);
        EdgesOfOddsTest.all(all);
        EdgesOfRowsTest.all(all);
        EdgesOfSheetsTest.all(all);
        EdgesOfShelvesTest.all(all);
        EdgesOfKeptTest.all(all);
        EdgesOfRefusalsTest.all(all);
        return all;
    }

    /** 0: what it is; 1: Terms; 1 + n: promise n, without its signature. */
    private static String[] sections(String doc) {
        String[] sections = new String[PROMISES + 2];
        sections[0] = between(doc, "## What it is", "## The public face");
        sections[1] = between(doc, "## Terms", "## Promise 1:");
        for (int i = 1; i <= PROMISES; i++) {
            String text = between(doc, "## Promise " + i + ":", i < PROMISES ? "## Promise " + (i + 1) + ":" : "## Not promised");
            sections[i + 1] = text.substring(text.indexOf("`:") + 2);
        }
        return sections;
    }

    private static String between(String doc, String from, String to) {
        int start = doc.indexOf(from);
        int end = doc.indexOf(to);
        CHECK.holds("the document has '" + from + "' before '" + to + "'", start >= 0 && end > start);
        String text = doc.substring(start + from.length(), end);
        return text.replaceAll("```(text)?", " ").replaceAll("========", " ").replaceAll("\\s+", " ");
    }

    private static void takeOut(String quote, int place, String[] sections, StringBuilder[] left) {
        int section = place + 1;
        CHECK.holds("'" + quote + "' stands in section " + section, sections[section].contains(quote));
        for (int at = sections[section].indexOf(quote); at >= 0; at = sections[section].indexOf(quote, at + 1)) {
            for (int i = 0; i < quote.length(); i++) {
                left[section].setCharAt(at + i, ' ');
            }
        }
    }
}
