import java.io.IOException;
import java.nio.charset.StandardCharsets;
import java.nio.file.Files;
import java.nio.file.Path;
import java.nio.file.Paths;
import java.util.ArrayList;
import java.util.LinkedHashMap;
import java.util.List;
import java.util.Map;

/**
 * The document's sentences, each with the answers that were compared for it. A sentence that no test quotes,
 * a quote that the document does not have, and a quote without an answer are wrong.
 */
final class Book {
    private static final Path DOCUMENT = Paths.get("../shared/DOC.md");

    final Due due = new Due();
    private final Map<String, Integer> answers = new LinkedHashMap<>();
    private String section = "";
    private String sentence = "";

    /** Opens a section of the document, by its heading up to the ":". */
    void section(String heading) {
        section = heading;
    }

    /** The answers that follow are due by this sentence. */
    void says(String quote) {
        sentence = section + " | " + quote;
        answers.putIfAbsent(sentence, 0);
        due.part(sentence);
    }

    void is(String call, long got, long wanted) {
        answers.merge(sentence, 1, Integer::sum);
        due.is(call, got, wanted);
    }

    void isTrue(String what, boolean got) {
        is(what, got ? 1 : 0, 1);
    }

    /** A new object that has read these texts; by this alone no sentence is tested. */
    LikeRecords with(String... texts) {
        LikeRecords object = new LikeRecords();
        for (int i = 0; i < texts.length; i++) {
            due.is("read() of " + texts[i], Due.read(object, texts[i]), i);
        }
        return object;
    }

    void back(LikeRecords object, int record, String wanted) {
        String got = Due.back(object, record);
        isTrue("text of record " + record + " is " + got + ", due is " + wanted, got.equals(wanted));
    }

    /** The text is read by a new object, and comes back so. */
    void reads(String text, String wanted) {
        back(with(text), 0, wanted);
    }

    /** The text fails at the place. */
    void fails(String text, int place) {
        LikeRecords object = new LikeRecords();
        Due.append(object, text);
        is("read() of " + text, object.read(), -1000 - place);
    }

    // ---- the document itself

    void end() throws IOException {
        if (Files.exists(DOCUMENT)) {
            compareWithDocument(sentencesOf(Files.readString(DOCUMENT, StandardCharsets.UTF_8)));
        } else {
            System.out.println("the document is not here; its sentences are not compared with the quotes");
        }
        due.end();
    }

    private void compareWithDocument(List<String> sentences) {
        due.part("the document");
        for (String one : sentences) {
            due.is("answers compared for: " + one + ": ", answers.getOrDefault(one, 0) > 0 ? 1 : 0, 1);
        }
        for (String one : answers.keySet()) {
            due.is("stands in the document: " + one + ": ", sentences.contains(one) ? 1 : 0, 1);
        }
    }

    /** All from the first line on, but for the last section, which promises nothing that could be tested. */
    private static List<String> sentencesOf(String document) {
        List<String> sentences = new ArrayList<>();
        String heading = "";
        for (String line : document.substring(0, document.indexOf("## Not promised")).split("\n")) {
            if (line.startsWith("#")) {
                heading = line.replaceAll("^#+ ", "").replaceAll(":.*", "");
            } else if (!line.isBlank() && !line.startsWith("```") && !line.equals("}")) {
                for (String one : line.trim().split("(?<=[.;]) +")) {
                    sentences.add(heading + " | " + one.replaceAll(" +", " "));
                }
            }
        }
        return sentences;
    }
}
