import java.util.ArrayList;
import java.util.HashMap;
import java.util.LinkedHashMap;
import java.util.List;
import java.util.Map;

/**
 * Reads texts by the document's grammar as it is printed there: every way to read the tokens is tried, and the
 * furthest token that no way could take is the one with the error 1.
 */
final class Grammar {
    private static final String[] DOCUMENT = {
        "text = { planet | alphabet | rule }",
        "planet = \"planet\" name \"rail\" number \"speed\" number [ \"from\" number ]"
            + " [ \"retro\" number \"every\" number ] \";\"",
        "alphabet = \"alphabet\" name letters \";\"",
        "letters = name",
        "rule = \"when\" test \"write\" sum \"of\" name \";\"",
        "test = both { \"or\" both }",
        "both = single { \"and\" single }",
        "single = \"not\" single | \"[\" test \"]\" | ( \"transit\" | \"opposite\" ) name name | \"retro\" name"
            + " | sum ( \"<\" | \">\" | \"=\" | \"<=\" | \">=\" ) sum",
        "sum = product { ( \"+\" | \"-\" ) product }",
        "product = value { ( \"*\" | \"/\" | \"%\" ) value }",
        "value = number | \"day\" | \"length\" | ( \"at\" | \"lap\" ) name | \"gap\" name name | \"-\" value"
            + " | \"(\" sum \")\" | ( \"min\" | \"max\" ) \"(\" sum \",\" sum \")\"",
    };
    private static final String KEYWORDS = " planet rail speed from retro every alphabet when write of transit opposite"
        + " at lap gap day length not and or min max ";

    /** A token: its text, where it begins, and n for a name, 1 for a number, = for others, ? for none, . for the end. */
    record Token(String text, int start, char kind) {
    }

    /** What was read by a production: tokens and nodes, in their order. */
    record Node(String name, List<Object> items) {
        Node node(int i) {
            return (Node) items.get(i);
        }

        String text(int i) {
            return items.get(i) instanceof Token token ? token.text() : "";
        }
    }

    private record Way(int end, List<Object> items) {
    }

    /** A piece of the grammar: s a sequence, a alternatives, o one or none, r any number, t a terminal, p a production. */
    private record Piece(char kind, String text, List<Piece> parts) {
    }

    private static final Map<String, Piece> PRODUCTIONS = new LinkedHashMap<>();

    static {
        for (String line : DOCUMENT) {
            String[] words = line.split(" ");
            int[] at = {2};
            PRODUCTIONS.put(words[0], alternatives(words, at));
        }
    }

    private static Piece alternatives(String[] words, int[] at) {
        List<Piece> all = new ArrayList<>();
        all.add(sequence(words, at));
        while (at[0] < words.length && words[at[0]].equals("|")) {
            at[0]++;
            all.add(sequence(words, at));
        }
        return new Piece('a', "", all);
    }

    private static Piece sequence(String[] words, int[] at) {
        List<Piece> parts = new ArrayList<>();
        while (at[0] < words.length && !"|)]}".contains(words[at[0]])) {
            String word = words[at[0]++];
            if ("([{".contains(word)) {
                Piece inner = alternatives(words, at);
                at[0]++;
                parts.add(word.equals("(") ? inner : new Piece(word.equals("[") ? 'o' : 'r', "", List.of(inner)));
            } else if (word.startsWith("\"")) {
                parts.add(new Piece('t', word.substring(1, word.length() - 1), List.of()));
            } else {
                parts.add(new Piece('p', word, List.of()));
            }
        }
        return new Piece('s', "", parts);
    }

    private final List<Token> tokens;
    private final Map<String, List<Way>> known = new HashMap<>();
    private int furthest;

    private Grammar(List<Token> tokens) {
        this.tokens = tokens;
    }

    static List<Token> tokens(String tape) {
        List<Token> all = new ArrayList<>();
        java.util.regex.Matcher matcher = java.util.regex.Pattern
            .compile("([a-z][a-z0-9]*)|([0-9]+)|(<=|>=|[()\\[\\];,+\\-*/%<>=])").matcher(tape);
        int place = 0;
        while (true) {
            while (place < tape.length() && " \n".indexOf(tape.charAt(place)) >= 0) {
                place++;
            }
            if (place == tape.length()) {
                all.add(new Token("", place, '.'));
                return all;
            }
            matcher.region(place, tape.length());
            boolean isToken = matcher.lookingAt() && all.size() < 400;
            String text = isToken ? matcher.group() : "";
            char kind = !isToken ? '?' : matcher.group(2) != null ? '1' : matcher.group(3) != null ? '='
                : KEYWORDS.contains(" " + text + " ") ? '=' : 'n';
            if (kind == '1' && text.length() > 6 || kind != '1' && text.length() > 12) {
                kind = '?';
            }
            all.add(new Token(text, place, kind));
            if (kind == '?') {
                return all;
            }
            place += text.length();
        }
    }

    /** The whole text, or an Integer: the number of the token with the error 1. */
    static Object read(List<Token> tokens) {
        Grammar grammar = new Grammar(tokens);
        for (Way way : grammar.ways(new Piece('p', "text", List.of()), 0, 0)) {
            if (tokens.get(way.end()).kind() == '.') {
                return way.items().get(0);
            }
            grammar.furthest = Math.max(grammar.furthest, way.end());
        }
        return grammar.furthest;
    }

    private List<Way> ways(Piece piece, int at, int depth) {
        if (piece.kind() != 'p') {
            return found(piece, at, depth);
        }
        String key = piece.text() + " " + at + " " + depth;
        List<Way> ways = known.get(key);
        if (ways == null) {
            ways = found(piece, at, depth);
            known.put(key, ways);
        }
        return ways;
    }

    private List<Way> found(Piece piece, int at, int depth) {
        List<Way> ways = new ArrayList<>();
        switch (piece.kind()) {
            case 't' -> terminal(ways, at, tokens.get(at).kind() == '=' && tokens.get(at).text().equals(piece.text()));
            case 'p' -> production(ways, piece.text(), at, depth);
            case 'a' -> piece.parts().forEach(part -> ways.addAll(ways(part, at, depth)));
            case 's' -> ways.addAll(sequenceWays(piece, new Way(at, List.of()), depth));
            case 'o' -> {
                ways.add(new Way(at, List.of()));
                ways.addAll(ways(piece.parts().get(0), at, depth));
            }
            default -> {
                ways.add(new Way(at, List.of()));
                for (int i = 0; i < ways.size(); i++) {
                    for (Way more : ways(piece.parts().get(0), ways.get(i).end(), depth)) {
                        ways.add(joined(ways.get(i), more));
                    }
                }
            }
        }
        return ways;
    }

    private void terminal(List<Way> ways, int at, boolean fits) {
        if (fits) {
            ways.add(new Way(at + 1, List.of(tokens.get(at))));
        } else {
            furthest = Math.max(furthest, at);
        }
    }

    private void production(List<Way> ways, String name, int at, int depth) {
        if (name.equals("name") || name.equals("number")) {
            terminal(ways, at, tokens.get(at).kind() == (name.equals("name") ? 'n' : '1'));
            return;
        }
        for (Way way : ways(PRODUCTIONS.get(name), at, depth)) {
            ways.add(new Way(way.end(), List.of(new Node(name, way.items()))));
        }
    }

    private List<Way> sequenceWays(Piece sequence, Way start, int depth) {
        List<Way> ways = List.of(start);
        int now = depth;
        for (int i = 0; i < sequence.parts().size(); i++) {
            Piece part = sequence.parts().get(i);
            String text = part.kind() == 't' ? part.text() : "";
            boolean isFront = i == 0 && sequence.parts().size() > 1 && (text.equals("-") || text.equals("not"));
            boolean isDeeper = text.equals("(") || text.equals("[") || isFront;
            now -= text.equals(")") || text.equals("]") ? 1 : 0;
            List<Way> longer = new ArrayList<>();
            for (Way way : ways) {
                if (isDeeper && now == 8) {
                    furthest = Math.max(furthest, way.end());
                    continue;
                }
                for (Way more : ways(part, way.end(), now)) {
                    longer.add(joined(way, more));
                }
            }
            now += isDeeper ? 1 : 0;
            ways = longer;
        }
        return ways;
    }

    private static Way joined(Way way, Way more) {
        List<Object> items = new ArrayList<>(way.items());
        items.addAll(more.items());
        return new Way(more.end(), items);
    }
}
