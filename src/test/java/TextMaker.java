/** Makes texts of the language, most of them without an error. */
final class TextMaker {
    private static final String[] PLANETS = {"sol", "mer", "ven", "ter", "a", "b1", "planets", "abcdefghij12", "zz"};
    private static final String[] ALPHABETS = {"low", "high", "a", "mid", "v", "k9", "sol"};
    private static final String SIGNS = "()[];,+-*/%<>= \nazb09_A\t?";

    private final Dice dice;
    private final StringBuilder out = new StringBuilder();
    private int planets;
    private int alphabets;
    private boolean isCareless;
    /** Short tests and sums leave room for all rules. */
    private boolean isShort;

    TextMaker(Dice dice) {
        this.dice = dice;
    }

    String text() {
        out.setLength(0);
        isCareless = dice.isOne(4);
        isShort = dice.isOne(6);
        planets = dice.isOne(12) ? 0 : isCareless && dice.isOne(9) ? 9 : dice.from(1, 8);
        alphabets = dice.isOne(12) ? 0 : isCareless && dice.isOne(9) ? 7 : dice.from(1, 6);
        for (int i = 0; i < planets; i++) {
            planet(i);
        }
        for (int i = 0; i < alphabets; i++) {
            alphabet(i);
        }
        int rules = alphabets == 0 ? 0 : isCareless && isShort && dice.isOne(3) ? 13 : dice.from(0, isShort ? 12 : 7);
        for (int i = 0; i < rules && out.length() < 1500; i++) {
            word("when");
            test(0);
            word("write");
            sum(0);
            word("of");
            word(isCareless && dice.isOne(9) ? dice.of(ALPHABETS) : ALPHABETS[dice.below(alphabets)]);
            word(";");
        }
        if (dice.isOne(5)) {
            spoil();
        }
        return out.length() > 2000 ? out.substring(0, 2000) : out.toString();
    }

    private void spoil() {
        int times = dice.from(1, 3);
        for (int i = 0; i < times && out.length() > 0; i++) {
            int place = dice.below(out.length());
            switch (dice.below(4)) {
                case 0 -> out.deleteCharAt(place);
                case 1 -> out.insert(place, SIGNS.charAt(dice.below(SIGNS.length())));
                case 2 -> out.setCharAt(place, SIGNS.charAt(dice.below(SIGNS.length())));
                default -> out.setLength(place);
            }
        }
    }

    private void word(String word) {
        boolean isNeeded = out.length() > 0 && isWord(out.charAt(out.length() - 1)) && isWord(word.charAt(0));
        if (isNeeded || dice.isOne(3)) {
            out.append(dice.isOne(9) ? "\n" : dice.isOne(9) ? "  " : " ");
        }
        out.append(word);
    }

    private static boolean isWord(char sign) {
        return sign >= 'a' && sign <= 'z' || sign >= '0' && sign <= '9';
    }

    private void number(int least, int most) {
        boolean isWrong = isCareless && dice.isOne(15);
        word("" + (isWrong ? Math.max(0, dice.of(least - 1, most + 1)) : dice.isOne(6) ? dice.of(least, most)
            : dice.from(least, most)));
    }

    private void planet(int i) {
        word("planet");
        word(isCareless && dice.isOne(15) ? dice.of(PLANETS) : PLANETS[i]);
        word("rail");
        number(1, 20);
        word("speed");
        number(1, dice.isOne(2) ? 60 : 9);
        if (dice.isOne(2)) {
            word("from");
            number(0, 359);
        }
        if (dice.isOne(2)) {
            int retro = dice.from(0, dice.isOne(2) ? 29 : 4);
            word("retro");
            word("" + (isCareless && dice.isOne(15) ? 30 : retro));
            word("every");
            number(retro + 1, dice.isOne(2) ? 60 : Math.min(60, retro + 5));
        }
        word(";");
    }

    private void alphabet(int i) {
        word("alphabet");
        word(isCareless && dice.isOne(15) ? dice.of(ALPHABETS) : ALPHABETS[i]);
        String all = "abcdefghijklmnopqrstuvwxyz";
        StringBuilder letters = new StringBuilder();
        int wanted = dice.from(1, 12);
        while (letters.length() < wanted) {
            char letter = all.charAt(dice.below(dice.isOne(2) ? 26 : 14));
            if (letters.indexOf("" + letter) < 0) {
                letters.append(letter);
            }
        }
        if (isCareless && dice.isOne(15)) {
            letters.setCharAt(letters.length() - 1, dice.of('1', letters.charAt(0)));
        }
        String told = letters.toString();
        word(told.equals("at") || told.equals("of") || told.equals("or") ? "x" : told);
        word(";");
    }

    private void planetName() {
        word(planets == 0 || isCareless && dice.isOne(25) ? dice.of(PLANETS) : PLANETS[dice.below(planets)]);
    }

    private void twoNames() {
        if (planets < 2 || isCareless && dice.isOne(20)) {
            planetName();
            planetName();
            return;
        }
        int first = dice.below(planets);
        word(PLANETS[first]);
        word(PLANETS[(first + dice.from(1, planets - 1)) % planets]);
    }

    private boolean isDeepEnough(int depth) {
        return isShort || depth >= (isCareless ? 9 : 8) || dice.isOne(2) && depth > 3;
    }

    private void test(int depth) {
        single(depth);
        while (dice.isOne(4)) {
            word(dice.of("or", "and"));
            single(depth);
        }
    }

    private void single(int depth) {
        int kind = dice.below(8);
        if (kind < 2 && planets > 0) {
            word(dice.of("transit", "opposite"));
            twoNames();
        } else if (kind == 2 && planets > 0) {
            word("retro");
            planetName();
        } else if (kind == 3 && !isDeepEnough(depth)) {
            word("not");
            single(depth + 1);
        } else if (kind == 4 && !isDeepEnough(depth)) {
            word("[");
            test(depth + 1);
            word("]");
        } else {
            sum(depth);
            word(dice.of("<", ">", "=", "<=", ">="));
            sum(depth);
        }
    }

    private void sum(int depth) {
        value(depth);
        while (dice.isOne(3)) {
            word(dice.of("+", "-", "*", "/", "%"));
            value(depth);
        }
    }

    private void value(int depth) {
        int kind = dice.below(11);
        if (kind == 0) {
            word(dice.of("day", "length"));
        } else if (kind < 4 && planets > 0) {
            word(dice.of("at", "lap"));
            planetName();
        } else if (kind < 6 && planets > 0) {
            word("gap");
            twoNames();
        } else if (kind == 6 && !isDeepEnough(depth)) {
            word("-");
            value(depth + 1);
        } else if (kind == 7 && !isDeepEnough(depth)) {
            word("(");
            sum(depth + 1);
            word(")");
        } else if (kind == 8 && !isDeepEnough(depth)) {
            word(dice.of("min", "max"));
            word("(");
            sum(depth + 1);
            word(",");
            sum(depth + 1);
            word(")");
        } else {
            word("" + (dice.isOne(2) ? dice.below(12) : dice.isOne(5) ? dice.of(999999, 65536, 0) : dice.below(400)));
        }
    }
}
