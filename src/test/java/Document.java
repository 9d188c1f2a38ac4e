import java.io.IOException;
import java.nio.file.Files;
import java.nio.file.Path;
import java.util.ArrayList;
import java.util.List;

/**
 * The document's text by places: each part under a heading is one, but among the terms each paragraph is,
 * together with the block behind it. It keeps which of its words have been quoted.
 */
final class Document {
    private static final String TERMS = "Terms";

    private static final class Place {
        private final String begins;
        private final StringBuilder lines = new StringBuilder();
        private String text;
        private boolean[] quoted;

        private Place(String begins) {
            this.begins = begins;
        }
    }

    private final List<Place> places = new ArrayList<>();

    Document(Path path) throws IOException {
        boolean amongTerms = false;
        boolean behindBlank = false;
        Place place = null;
        for (String line : Files.readAllLines(path)) {
            if (line.startsWith("## ")) {
                place = addPlace(line.substring(3));
                amongTerms = place.begins.equals(TERMS);
            } else if (amongTerms && behindBlank && !line.isBlank() && !line.startsWith("```")) {
                place = addPlace(line);
                place.lines.append(line).append(' ');
            } else if (place != null && !line.startsWith("```")) {
                place.lines.append(line).append(' ');
            }
            behindBlank = line.isBlank();
        }
        for (Place each : places) {
            each.text = each.lines.toString().replace("`", "").replaceAll("\\s+", " ").trim();
            each.quoted = new boolean[each.text.length()];
        }
    }

    private Place addPlace(String begins) {
        Place place = new Place(begins);
        places.add(place);
        return place;
    }

    /** Marks words as quoted; answers whether they stand at that place, and were not all quoted before. */
    boolean quote(String placeBegins, String words) {
        for (Place place : places) {
            if (place.begins.startsWith(placeBegins)) {
                return quoteIn(place, words);
            }
        }
        return false;
    }

    private static boolean quoteIn(Place place, String words) {
        int from = place.text.indexOf(words);
        while (from >= 0) {
            if (!place.quoted[from]) {
                for (int i = from; i < from + words.length(); i++) {
                    place.quoted[i] = true;
                }
                return true;
            }
            from = place.text.indexOf(words, from + 1);
        }
        return false;
    }

    /** What stands at a place, or at one of the terms, and has letters or digits, but has not been quoted. */
    List<String> notQuoted(String... placesThatMayBeLeftOut) {
        List<String> rest = new ArrayList<>();
        for (Place place : places) {
            if (!List.of(placesThatMayBeLeftOut).contains(place.begins)) {
                addNotQuoted(rest, place);
            }
        }
        return rest;
    }

    private static void addNotQuoted(List<String> rest, Place place) {
        StringBuilder run = new StringBuilder();
        for (int i = 0; i <= place.text.length(); i++) {
            if (i < place.text.length() && !place.quoted[i]) {
                run.append(place.text.charAt(i));
            } else {
                if (run.chars().anyMatch(Character::isLetterOrDigit)) {
                    rest.add("[" + place.begins.substring(0, Math.min(place.begins.length(), 30)) + "] " + run);
                }
                run.setLength(0);
            }
        }
    }
}
