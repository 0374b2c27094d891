import java.io.IOException;
import java.nio.charset.StandardCharsets;
import java.nio.file.Files;
import java.nio.file.Path;
import java.util.ArrayList;
import java.util.LinkedHashMap;
import java.util.List;
import java.util.Map;
import java.util.Set;
import java.util.TreeSet;

/**
 * The document's words, and which of them have been tested: each test names the words that it is for,
 * and in the end no word of the terms and the promises may be left.
 */
final class Book {
    private static final Path DOCUMENT = Path.of("../shared/DOC.md");
    private static final Set<String> TERMS = Set.of("THINGS", "BOUNDS", "SEARCH", "TEXTS", "HISTORY", "ERRORS");

    private final Due due;
    private final Map<String, String> sections = new LinkedHashMap<>();
    private final Map<String, boolean[]> tested = new LinkedHashMap<>();
    private final Set<String> failed = new TreeSet<>();
    private String section = "";
    private String sentence = "";
    private int sentences;
    private int answers;

    Book(Due due) throws IOException {
        this.due = due;
        read(Files.readString(DOCUMENT, StandardCharsets.UTF_8));
        for (Map.Entry<String, String> entry : sections.entrySet()) {
            tested.put(entry.getKey(), new boolean[entry.getValue().length()]);
        }
    }

    /** The terms by their names, the promises by their numbers, without headings and without signatures. */
    private void read(String document) {
        String name = "";
        for (String line : document.split("\n")) {
            String words = line.replace("`", "").replaceAll("^- ", "").trim();
            if (line.startsWith("## ")) {
                name = line.startsWith("## Promise ") ? line.replaceAll("^## Promise (\\d+):.*", "$1") : "";
                if (line.equals("## What it is")) name = "HEAD";
            } else if (TERMS.contains(words)) {
                name = words;
            } else if (!name.isEmpty() && !words.startsWith("Ahead of the calls")) {
                if (!sections.containsKey(name)) words = words.replaceAll("^(int )?\\w+\\([^)]*\\): ", "");
                if (!words.isEmpty()) sections.merge(name, words, (some, more) -> some + " " + more);
            }
        }
    }

    void section(String name) {
        section = name;
        if (!sections.containsKey(name)) due.is("the document has a section " + name, 0, 1);
    }

    /** A test for these words of the section. */
    void sentence(String words, Runnable test) {
        sentence = "[" + section + "] " + words;
        sentences++;
        mark(words);
        int before = answers;
        try {
            test.run();
        } catch (RuntimeException failure) {
            isTrue("no exception, but " + failure, false);
        }
        if (answers == before) due.is(sentence + ": something is asked", 0, 1);
    }

    private void mark(String words) {
        String text = sections.getOrDefault(section, "");
        int place = text.indexOf(words);
        due.is(sentence + ": stands in the document", place >= 0 ? 1 : 0, 1);
        for (; place >= 0; place = text.indexOf(words, place + 1)) {
            for (int letter = place; letter < place + words.length(); letter++) tested.get(section)[letter] = true;
        }
    }

    void is(String call, int number, int answer, int want) {
        answers++;
        if (answer != want) failed.add(sentence);
        due.is(sentence + ": the call " + number + ", " + call + ",", answer, want);
    }

    void isTrue(String what, boolean holds) {
        answers++;
        if (!holds) failed.add(sentence);
        due.is(sentence + ": " + what, holds ? 1 : 0, 1);
    }

    /** Each word of the terms and the promises has to stand in the words of a test. */
    void end() {
        for (Map.Entry<String, String> entry : sections.entrySet()) {
            if (entry.getKey().equals("HEAD")) continue;
            String left = untested(entry.getValue(), tested.get(entry.getKey()));
            due.is("[" + entry.getKey() + "] has no test for: " + left, left.isEmpty() ? 0 : 1, 0);
        }
        for (String words : failed) System.out.println("broken: " + words);
        System.out.println(sentences + " sentences, " + failed.size() + " of them broken");
    }

    private static String untested(String text, boolean[] marks) {
        StringBuilder left = new StringBuilder();
        for (int letter = 0; letter < marks.length; letter++) {
            if (!marks[letter] && Character.isLetterOrDigit(text.charAt(letter))) left.append(text.charAt(letter));
        }
        return left.toString();
    }
}
