import java.io.IOException;
import java.nio.file.Files;
import java.nio.file.Path;
import java.util.ArrayList;
import java.util.LinkedHashMap;
import java.util.List;
import java.util.Map;

/**
 * All tests of single sentences of ../shared/DOC.md, and whether each sentence has one. With 'names' as an argument
 * it prints the tests' names, too.
 */
public final class BoundaryTests extends Boundary {
    private static final Path DOCUMENT = Path.of("..", "shared", "DOC.md");

    public static void main(String[] args) throws IOException {
        BoundaryOfTexts.all();
        BoundaryOfRug.all();
        BoundaryOfCalls.all();
        Map<String, String> sections = sections(Files.readString(DOCUMENT));
        for (Named named : TESTS) {
            if (args.length > 0 && args[0].equals("names")) {
                System.out.println(named.name());
            }
            count(named.name() + " stands in the document", sections.getOrDefault(named.section(), "")
                    .contains(named.sentence()));
        }
        sections.forEach((section, text) -> count(section + " has a test for each sentence; without one: "
                + untested(section, text), untested(section, text).isEmpty()));
        System.out.println(right + " passed, " + wrong + " failed");
        System.exit(wrong == 0 ? 0 : 1);
    }

    private static void count(String what, boolean so) {
        if (so) {
            right++;
        } else {
            wrong++;
            System.out.println("wrong: " + what);
        }
    }

    /** 'What it is' (of that the sentence about calls alone), 'Terms' and each promise, with single blanks. */
    private static Map<String, String> sections(String document) {
        Map<String, String> sections = new LinkedHashMap<>();
        String[] parts = document.split("(?m)^## ");
        for (int i = 1; i < parts.length; i++) {
            int line = parts[i].indexOf('\n');
            String title = parts[i].substring(0, line);
            String text = parts[i].substring(line).replaceAll("```(text)?", " ").replaceAll("====", " ");
            if (title.startsWith("Promise ")) {
                title = title.substring(0, title.indexOf(':'));
                text = text.replaceAll("`[^`]*`: ", " ");
            }
            if (title.equals("What it is")) {
                text = text.substring(text.indexOf("An object"), text.indexOf(" what later calls"));
            }
            if (!title.equals("The public face") && !title.equals("Not promised")) {
                sections.put(title, text.replaceAll("\\s+", " "));
            }
        }
        return sections;
    }

    /** The parts of a section that no test's sentence has. */
    private static List<String> untested(String section, String text) {
        boolean[] tested = new boolean[text.length()];
        for (Named named : TESTS) {
            if (named.section().equals(section)) {
                for (int at = text.indexOf(named.sentence()); at >= 0; at = text.indexOf(named.sentence(), at + 1)) {
                    for (int i = 0; i < named.sentence().length(); i++) {
                        tested[at + i] = true;
                    }
                }
            }
        }
        List<String> parts = new ArrayList<>();
        StringBuilder part = new StringBuilder();
        for (int i = 0; i <= text.length(); i++) {
            if (i < text.length() && !tested[i]) {
                part.append(text.charAt(i));
            } else {
                if (part.toString().matches(".*[A-Za-z0-9].*")) {
                    parts.add(part.toString().trim());
                }
                part.setLength(0);
            }
        }
        return parts;
    }
}
