/** "1. The language", sentence by sentence: the last text that is allowed, and the first one that is not. */
public final class LanguageEdgeTest {
    private static final Check CHECK = new Check();
    private static final String TWO = "planet a rail 1 speed 1; planet b rail 2 speed 2; alphabet l xyz; ";
    private static final String ALL = "abcdefghijklmnopqrstuvwxyz";

    public static void main(String[] args) {
        fullTape();
        emptyTape();
        bytesAtTheFront();
        bytesBetweenTokens();
        bytesInTokens();
        blanksThatAreNeeded();
        longestToken();
        gluedSymbols();
        otherWordsAreNames();
        longWords();
        longNumbers();
        deepest();
        depthEnds();
        lastToken();
        lastTokenAndErrors();
        errorOneGoesFirst();
        firstError();
        leastErrorAtOneToken();
        ranges();
        retroAndEvery();
        numbersInSums();
        toldAhead();
        namesByOneSign();
        samePlanet();
        letters();
        mostOfAll();
        oneTooMany();
        oldNamesAreForgotten();
        errorAt();
        CHECK.end();
    }

    private static void text(String text, int error, int place) {
        Texts.dueError(CHECK, text, error, place);
    }

    private static void fine(String text) {
        text(text, 0, -1);
    }

    private static String blanks(int n) {
        return Texts.times(n, " ");
    }

    private static boolean isLetter(int sign) {
        return ALL.indexOf(sign) >= 0;
    }

    private static boolean isDigit(int sign) {
        return "0123456789".indexOf(sign) >= 0;
    }

    private static boolean isBlank(int sign) {
        return sign == 32 || sign == 10;
    }

    /** "a row of at most 2000 bytes": all of them are read, and the end is at 2000. */
    private static void fullTape() {
        fine(blanks(2000));
        fine(TWO + blanks(2000 - TWO.length()));
        fine(blanks(2000 - TWO.length()) + TWO);
        fine(blanks(2000 - TWO.length() + 1) + TWO.trim());
        text(blanks(1999) + "?", 1, 1999);
        text(blanks(1994) + "planet", 1, 2000);
        text("planet" + blanks(1994), 1, 2000);
        text(blanks(1999) + ";", 1, 1999);
        text(blanks(1985) + "alphabet l xx;x", 1, 1999);
        text(blanks(1986) + "alphabet l xx;", 7, 1997);
        ShadowSpell spell = new ShadowSpell();
        for (int i = 0; i < 100; i++) {
            spell.feed(-1, -1, -1, -1, -1);
        }
        CHECK.due("teach() of 2000 bytes 255", 1, spell.teach());
        CHECK.due("feed behind teach()", 20, spell.feed(0x20202020, 0x20202020, 0x20202020, 0x20202020, 0x20202020));
        CHECK.due("teach(), what was there is gone", 0, spell.teach());
    }

    /** "at first empty", and "it is empty behind it": behind a text without an error and behind one with it. */
    private static void emptyTape() {
        ShadowSpell spell = new ShadowSpell();
        CHECK.due("count(4), new", 0, spell.count(4));
        CHECK.due("teach() of the empty tape", 0, spell.teach());
        CHECK.due("teach() of two planets", 0, Texts.teach(spell, TWO));
        CHECK.due("count(4) behind it", 0, spell.count(4));
        CHECK.due("teach() of an error", 1, Texts.teach(spell, TWO + "?"));
        CHECK.due("count(4) behind it", 0, spell.count(4));
        CHECK.due("planets stay", 2, spell.count(1));
        CHECK.due("teach() of the empty tape", 0, spell.teach());
        CHECK.due("no planets", 0, spell.count(1));
        CHECK.due("no alphabets", 0, spell.count(2));
    }

    /** "Blanks (32) and line ends (10) can stand .. at the beginning", and no other byte. */
    private static void bytesAtTheFront() {
        for (int sign = 0; sign < 256; sign++) {
            text((char) sign + " planet a rail 1 speed 1;", isBlank(sign) ? 0 : 1, isBlank(sign) ? -1 : 0);
            text((char) sign + "", isBlank(sign) ? 0 : 1, isBlank(sign) ? -1 : 0);
        }
        fine("\n \n\n  planet a rail 1 speed 1;");
    }

    /** "between tokens .. and at the end": every byte, where a blank may stand. */
    private static void bytesBetweenTokens() {
        for (int sign = 0; sign < 256; sign++) {
            boolean isBlank = isBlank(sign);
            boolean isInWord = isLetter(sign) || isDigit(sign);
            text("planet" + (char) sign + "a rail 1 speed 1;", isBlank ? 0 : 1, isBlank ? -1 : isInWord ? 0 : 6);
            text("alphabet l x;" + (char) sign, isBlank ? 0 : 1, isBlank ? -1 : 13);
            text("alphabet l x;" + (char) sign + "planet a rail 1 speed 1;", isBlank ? 0 : 1, isBlank ? -1 : 13);
        }
        fine("alphabet l x; \n \n");
    }

    /** "A word: a letter a to z, followed by letters a to z and digits", "A number: .. digits": every byte in them. */
    private static void bytesInTokens() {
        for (int sign = 0; sign < 256; sign++) {
            boolean isBlank = isBlank(sign);
            boolean isInWord = isLetter(sign) || isDigit(sign);
            boolean isName = isBlank || isInWord;
            text("planet x" + (char) sign + " rail 1 speed 1;", isName ? 0 : 1, isName ? -1 : 8);
            // Behind a blank the next token is rail, in the name's place.
            text("planet " + (char) sign + " rail 1 speed 1;", isLetter(sign) ? 0 : 1, isLetter(sign) ? -1 : isBlank ? 9 : 7);
            boolean isFine = isBlank || isDigit(sign);
            text("planet a rail 1" + (char) sign + " speed 1;", isFine ? 0 : 1, isFine ? -1 : 15);
            text("planet a rail 1 speed 1 from " + (char) sign + "1;", isFine ? 0 : 1, isFine ? -1 : 29);
        }
    }

    /** Blanks "have to stand between two tokens that would otherwise be read as one", and nowhere else. */
    private static void blanksThatAreNeeded() {
        text("planeta rail 1 speed 1;", 1, 0);
        text("planet arail 1 speed 1;", 1, 13);
        text("planet a rail1 speed 1;", 1, 9);
        text("planet a rail 1 speed1;", 1, 16);
        text(TWO + "when 1 = 1 write 1 2 of l;", 1, TWO.length() + 19);
        fine(TWO + "when 1 = 1 write 12 of l;");
        fine("planet a rail 1speed 1from 3retro 4every 5;planet b rail 1speed 1;alphabet l x;");
        fine(TWO + "when[1=1]and(2)<3or-4>5and not[retro a]write(1)of l;when 1=1write 2of l;");
        fine(TWO + "when min(1,2)+max(3,4)*5/6%7-at a>=8and 9<=lap b write 1of l;");
        text(TWO + "when 1=1and not[retro a]write 1ofl;", 1, TWO.length() + 31);
        text(TWO + "when notretro a write 1 of l;", 1, TWO.length() + 5);
    }

    /** "The longest possible token is always read." */
    private static void longestToken() {
        fine(TWO + "when 1<=2 and 2>=1 write 1 of l;");
        text(TWO + "when 1<==2 write 1 of l;", 1, TWO.length() + 8);
        text(TWO + "when 1>==2 write 1 of l;", 1, TWO.length() + 8);
        text(TWO + "when 1=<2 write 1 of l;", 1, TWO.length() + 7);
        text(TWO + "when 1<>2 write 1 of l;", 1, TWO.length() + 7);
        text(TWO + "when 1< =2 write 1 of l;", 1, TWO.length() + 8);
        text(TWO + "when 1<\n=2 write 1 of l;", 1, TWO.length() + 8);
        fine("planet planets rail 1 speed 1;planet from1 rail 1 speed 1;planet retroretro rail 1 speed 1;");
        fine("planet a rail 01speed 001;");
    }

    /** Of two symbols side by side only < = and > = are read as one: all others are as with a blank between. */
    private static void gluedSymbols() {
        String[] beginnings = {"when", "when 1", "when (1", "when [retro a", "when min(1", "when 1 =", "alphabet k x", ""};
        String[] symbols = "( ) [ ] ; , + - * / % < > = <= >=".split(" ");
        for (String beginning : beginnings) {
            String front = TWO + beginning + " ";
            for (String one : symbols) {
                for (String other : symbols) {
                    if (other.equals("=") && (one.equals("<") || one.equals(">"))) {
                        int behind = beginning.equals("when 1") ? 2 : 0;
                        text(front + one + other, 1, front.length() + behind);
                    } else {
                        asApart(front + one, other + " 2");
                    }
                }
            }
        }
    }

    private static void asApart(String front, String behind) {
        ShadowSpell apart = new ShadowSpell();
        int error = Texts.teach(apart, front + " " + behind);
        int place = apart.errorAt();
        text(front + behind, error, place > front.length() ? place - 1 : place);
    }

    /** "All other words are names." */
    private static void otherWordsAreNames() {
        String words = "text rule name number letters test both single sum product value word digit symbol token tape paper sky"
            + " true false if then else xor nor mod abs plus minus times is to in as by do on up x y z a1 b2c3"
            + " planets rails speeds retros everyone alphabets whenever writes off transits opposites ate laps gaps days"
            + " lengths nota andy order mint maxi";
        for (String word : words.split(" ")) {
            fine("planet " + word + " rail 1 speed 1; planet other rail 1 speed 1; alphabet " + word + " pqr;"
                + "when transit " + word + " other and opposite other " + word + " and retro " + word + " write at " + word
                + " + lap " + word + " + gap " + word + " other of " + word + ";");
            boolean isTwice = word.chars().distinct().count() < word.length() || word.chars().anyMatch(LanguageEdgeTest::isDigit);
            text("alphabet other " + word + ";", isTwice ? 7 : 0, isTwice ? 15 : -1);
            text(word, 1, 0);
            text("when " + word + " = 1 write 1 of l;", 1, 5);
        }
    }

    /** "at most 12 bytes": a longer word is error 1 at its first byte, wherever it stands. */
    private static void longWords() {
        for (int n = 1; n <= 15; n++) {
            boolean isFine = n <= 12;
            String word = "qjxvkqjxvkqjxvk".substring(0, n);
            String mixed = "z0123456789abcdef".substring(0, n);
            text("planet " + word + " rail 1 speed 1;", isFine ? 0 : 1, isFine ? -1 : 7);
            text("planet " + mixed + " rail 1 speed 1;", isFine ? 0 : 1, isFine ? -1 : 7);
            text("alphabet " + word + " x;", isFine ? 0 : 1, isFine ? -1 : 9);
            text("alphabet l " + ALL.substring(0, n) + ";", isFine ? 0 : 1, isFine ? -1 : 11);
            text("alphabet l " + ALL.substring(26 - n) + ";", isFine ? 0 : 1, isFine ? -1 : 11);
            text(TWO + "when retro " + word + " write 1 of l;", isFine ? 3 : 1, TWO.length() + 11);
            text(TWO + "when 1 = 1 write 1 of " + word + ";", isFine ? 3 : 1, TWO.length() + 22);
        }
        text("planet abcdefghijklm", 1, 7);
        text("abcdefghijkl", 1, 0);
        text("abcdefghijklm", 1, 0);
    }

    /** "A number: 1 to 6 digits": a longer one is error 1 at its first byte, whatever it would be. */
    private static void longNumbers() {
        for (int n = 1; n <= 9; n++) {
            boolean isFine = n <= 6;
            String one = Texts.times(n - 1, "0") + "1";
            text("planet a rail " + one + " speed 1;", isFine ? 0 : 1, isFine ? -1 : 14);
            text("planet a rail 1 speed " + one + ";", isFine ? 0 : 1, isFine ? -1 : 22);
            text("planet a rail 1 speed 1 from " + one + ";", isFine ? 0 : 1, isFine ? -1 : 29);
            text("planet a rail 1 speed 1 retro 0 every " + one + ";", isFine ? 0 : 1, isFine ? -1 : 38);
            text(TWO + "when " + one + " = 1 write 1 of l;", isFine ? 0 : 1, isFine ? -1 : TWO.length() + 5);
            text(TWO + "when 1 = 1 write " + Texts.times(n, "9") + " of l;", isFine ? 0 : 1, isFine ? -1 : TWO.length() + 17);
        }
        text("planet a rail " + Texts.times(100, "0"), 1, 14);
        text("planet a rail 4294967297 speed 1;", 1, 14);
    }

    /** "It may be at most 8": for each order in which tests and then sums go deeper, eight times and nine times. */
    private static void deepest() {
        String[][] tests = {{"[", "]"}, {"not ", ""}};
        String[][] sums = {{"(", ")"}, {"-", ""}, {"min(", ",2)"}, {"max(2,", ")"}};
        for (int pattern = 0; pattern < 64; pattern++) {
            for (int inTests = 0; inTests <= 9; inTests++) {
                StringBuilder front = new StringBuilder();
                StringBuilder back = new StringBuilder();
                for (int i = 0; i < 9; i++) {
                    boolean isTest = i < inTests;
                    String[] pair = isTest ? tests[pattern >> i % 6 & 1] : sums[(pattern + i * (pattern / 4 + 1)) % 4];
                    if (i == 8) {
                        eightDeep(front.toString(), back.toString(), inTests);
                        text(TWO + "when " + front + pair[0] + "1 = 1", 1, TWO.length() + 5 + front.length() + opening(pair[0]));
                    }
                    front.append(pair[0]);
                    back.insert(0, isTest ? pair[1] + " " : pair[1] + "~");
                }
            }
        }
    }

    /** Of min( and max(2, the ( is what the depth is greater behind. */
    private static int opening(String front) {
        return front.startsWith("m") ? 3 : 0;
    }

    private static void eightDeep(String front, String back, int inTests) {
        // What closes sums stands ahead of the comparison, what closes tests behind it.
        int end = back.lastIndexOf('~') + 1;
        String sums = back.substring(0, end).replace("~", "");
        fine(TWO + "when " + front + "1" + sums + " = 1" + back.substring(end) + " write 1 of l;");
        if (inTests == 0) {
            fine(TWO + "when 1 = 1 write " + front + "1" + sums + " of l;");
            fine(TWO + "when 1 = " + front + "1" + sums + " write 1 of l;");
        }
    }

    /** The depth is less again behind what made it greater, and a minus between two values makes it no greater. */
    private static void depthEnds() {
        String deep = "((((((((1))))))))";
        fine(TWO + "when " + deep + " + " + deep + " = " + deep + " * " + deep + " write " + deep + " - " + deep + " of l;");
        fine(TWO + "when [[[[[[[[retro a]]]]]]]] and [[[[[[[[retro b]]]]]]]] write --------1 - --------day of l;");
        fine(TWO + "when not not not not not not not not retro a or not not not not not not not not retro b write 1 of l;");
        fine(TWO + "when ((((((((1 - 1 + 2)))))))) = 1 write 1 of l;");
        text(TWO + "when ((((((((1 - -1)))))))) = 1 write 1 of l;", 1, TWO.length() + 17);
        text(TWO + "when ((((((((-1)))))))) = 1 write 1 of l;", 1, TWO.length() + 13);
        text(TWO + "when --------(1) = 1 write 1 of l;", 1, TWO.length() + 13);
        text(TWO + "when --------min(1, 2) = 1 write 1 of l;", 1, TWO.length() + 16);
        fine(TWO + "when --------at a - gap a b = 1 write 1 of l;");
        fine(TWO + "when [[[[[[[[1 - 1 = 2]]]]]]]] write 1 of l;");
        // A - is in front of a value, a not in front of a single: what stands behind that is as deep as before.
        fine(TWO + "when -1 * " + deep + " = -1 / " + deep + " write -day % " + deep + " + " + deep + " of l;");
        fine(TWO + "when not retro a and [[[[[[[[retro a]]]]]]]] or not 1 = 1 and " + deep + " = 1 write 1 of l;");
        text(TWO + "when [[[[[[[[1 = -2]]]]]]]] write 1 of l;", 1, TWO.length() + 17);
        text(TWO + "when [[[[[[[[1 = 2 and not retro a]]]]]]]] write 1 of l;", 1, TWO.length() + 23);
        fine(TWO + "when min(-------1, (((((((2)))))))) = 1 write 1 of l;");
        text(TWO + "when min(-------1, ((((((((2))))))))) = 1 write 1 of l;", 1, TWO.length() + 26);
        text(TWO + "when max(--------1, 2) = 1 write 1 of l;", 1, TWO.length() + 16);
        text(TWO + "when ((((((((1))))))))) = 1 write 1 of l;", 1, TWO.length() + 22);
    }

    /** "the token that would be the 401st (the end of the tape not counted)" */
    private static void lastToken() {
        String alphabets = Texts.times(100, "alphabet l x;");
        // 400 tokens are read to their end, so that the name told twice is the error.
        text(alphabets, 2, 22);
        text(alphabets + " \n", 2, 22);
        for (String token : new String[] {"alphabet", "planet", "when", "x", "1", ";", "?", "abcdefghijklm", "0000000"}) {
            text(alphabets + " " + token, 1, alphabets.length() + 1);
        }
        text(alphabets + "alphabet l x;", 1, alphabets.length());
        // 4 and 8 and 2 * 194 tokens: a rule without its end is wrong at the end, or at the 401st token.
        String open = "alphabet l x;when 1=1 write 1" + Texts.times(194, "+1") + " of l";
        text(open, 1, open.length());
        text(open + "  ", 1, open.length() + 2);
        text(open + ";", 1, open.length());
        text(open + " ;", 1, open.length() + 1);
        // 399 tokens, the ; is the 400th.
        String less = "alphabet l x;when -1=1 write 1" + Texts.times(193, "+1") + " of l";
        text(less, 1, less.length());
        fine(less + ";");
        fine(less + ";\n");
        text(less + ";;", 1, less.length() + 1);
        text(less + ";alphabet k y;", 1, less.length() + 1);
        text(less + " ?", 1, less.length() + 1);
    }

    /** An error 1 ahead of the 401st token stands where it is; what else is wrong ahead of it is not told. */
    private static void lastTokenAndErrors() {
        String alphabets = Texts.times(99, "alphabet l x;");
        text(alphabets + "alphabet l 1;", 1, alphabets.length() + 11);
        text("alphabet l x;alphabet l x x;" + alphabets, 1, 26);
        text("alphabet l 2;" + alphabets + ";", 1, 11);
        text("alphabet l xx;" + alphabets + ";", 1, 14 + alphabets.length());
        text("alphabet l xx;" + alphabets, 7, 11);
    }

    private static final String EIGHT = eight();
    /** By the numbers of the errors 2 to 7: a sentence with just this one, and its place there. */
    private static final String[] WRONG = {"", "", "planet p3 rail 1 speed 1;", "when retro l write 1 of l;",
        "planet p9 rail 1 speed 1;", "planet c rail 0 speed 1;", "when gap p1 p1 = 1 write 1 of l;", "alphabet m xyx;"};
    private static final int[] PLACES = {0, 0, 7, 11, 7, 14, 12, 11};

    private static String eight() {
        StringBuilder text = new StringBuilder("alphabet l xyz; ");
        for (int i = 1; i <= 8; i++) {
            text.append("planet p").append(i).append(" rail 1 speed 1;");
        }
        return text.toString();
    }

    /** Behind eight planets the name of the ninth one goes before an error 5. */
    private static String ahead(int error) {
        return error == 5 ? TWO : EIGHT;
    }

    /** "Only if there is no error 1" the others are told: an error 1 at the very end goes first. */
    private static void errorOneGoesFirst() {
        for (int error = 2; error <= 7; error++) {
            String text = ahead(error) + WRONG[error];
            text(text, error, ahead(error).length() + PLACES[error]);
            text(text + " ?", 1, text.length() + 1);
            text(text + ";", 1, text.length());
            text(text.substring(0, text.length() - 1), 1, text.length() - 1);
            text(text + "planet", 1, text.length() + 6);
            text(text + "alphabet n abcdefghijklm;", 1, text.length() + 11);
            text(text + "when 1 = 1 write 1000000 of l;", 1, text.length() + 17);
            text(text + "when 1 = 1 write --------- 1 of l;", 1, text.length() + 25);
        }
    }

    /** "looked at from left to right, and the first error is told, at its token" */
    private static void firstError() {
        for (int first = 2; first <= 7; first++) {
            for (int second = 2; second <= 7; second++) {
                String text = ahead(first) + WRONG[first] + WRONG[second];
                text(text, first, ahead(first).length() + PLACES[first]);
            }
        }
        String[] planet = {"planet", "a", "rail", "99", "speed", "99", "from", "999", "retro", "99", "every", "99", ";"};
        int[] errors = {0, 2, 0, 5, 0, 5, 0, 5, 0, 5, 0, 5, 0};
        for (int i = 1; i < planet.length; i++) {
            if (errors[i] != 0) {
                text(TWO + String.join(" ", planet), errors[i], TWO.length() + placeOf(planet, i));
                planet[i] = errors[i] == 2 ? "c" : i == 11 ? "3" : "2";
            }
        }
        fine(TWO + String.join(" ", planet));
        text(TWO + "when transit c d and gap a a = 1 write gap b b of k;", 3, TWO.length() + 13);
        text(TWO + "when transit a d and gap a a = 1 write gap b b of k;", 3, TWO.length() + 15);
        text(TWO + "when transit a b and gap a a = 1 write gap b b of k;", 6, TWO.length() + 27);
        text(TWO + "when transit a b and gap a b = 1 write gap b b of k;", 6, TWO.length() + 45);
        text(TWO + "when transit a b and gap a b = 1 write gap b a of k;", 3, TWO.length() + 50);
        fine(TWO + "when transit a b and gap a b = 1 write gap b a of l;");
    }

    private static int placeOf(String[] words, int word) {
        int place = 0;
        for (int i = 0; i < word; i++) {
            place += words[i].length() + 1;
        }
        return place;
    }

    /** "of errors at one token the one with the smallest number" */
    private static void leastErrorAtOneToken() {
        text(EIGHT + "planet p8 rail 1 speed 1;", 2, EIGHT.length() + 7);
        text(EIGHT + "planet p9 rail 1 speed 1;", 4, EIGHT.length() + 7);
        String six = "alphabet a x;alphabet b x;alphabet c x;alphabet d x;alphabet e x;alphabet f x;";
        text(six + "alphabet f x;", 2, six.length() + 9);
        text(six + "alphabet g x;", 4, six.length() + 9);
        // The first one of two unknown planets, although they are the same.
        text(TWO + "when opposite c c write 1 of l;", 3, TWO.length() + 14);
        text(TWO + "when 1 = 1 write gap l l of l;", 3, TWO.length() + 21);
        // A digit and a letter twice.
        text("alphabet l a1a;", 7, 11);
    }

    private static void range(String ahead, String behind, int least, int most) {
        for (int number : new int[] {0, 1, least - 1, least, least + 1, most - 1, most, most + 1, 2 * most, 65536 + most, 999999}) {
            if (number >= 0) {
                boolean isFine = least <= number && number <= most;
                text(ahead + number + behind, isFine ? 0 : 5, isFine ? -1 : ahead.length());
                String zeros = "000000".substring(("" + number).length());
                text(ahead + zeros + number + behind, isFine ? 0 : 5, isFine ? -1 : ahead.length());
            }
        }
    }

    /** "rail 1 to 20, speed 1 to 60, from 0 to 359, retro 0 to 29 .. every 1 to 60" */
    private static void ranges() {
        range("planet a rail ", " speed 1;", 1, 20);
        range("planet a rail 1 speed ", ";", 1, 60);
        range("planet a rail 1 speed ", " from 1;", 1, 60);
        range("planet a rail 1 speed 1 from ", ";", 0, 359);
        range("planet a rail 1 speed 1 from ", " retro 1 every 2;", 0, 359);
        range("planet a rail 1 speed 1 retro ", " every 60;", 0, 29);
        range("planet a rail 1 speed 1 from 359 retro ", " every 60;", 0, 29);
        range("planet a rail 1 speed 1 retro 0 every ", ";", 1, 60);
        range("planet a rail 1 speed 1 from 359 retro 0 every ", ";", 1, 60);
    }

    /** "every 1 to 60, and greater than the number behind its retro" */
    private static void retroAndEvery() {
        for (int retro = 0; retro <= 30; retro++) {
            String ahead = "planet a rail 1 speed 1 retro " + retro;
            for (int every = 0; every <= 62; every++) {
                boolean isFine = retro <= 29 && every > retro && every <= 60;
                int place = retro > 29 ? 30 : ahead.length() + 7;
                text(ahead + " every " + every + ";", isFine ? 0 : 5, isFine ? -1 : place);
            }
        }
        // The number behind its own retro, not that behind another planet's.
        fine("planet a rail 1 speed 1 retro 20 every 21; planet b rail 1 speed 1 retro 3 every 4;");
        text("planet a rail 1 speed 1 retro 3 every 60; planet b rail 1 speed 1 retro 20 every 4;", 5, 81);
    }

    /** No range is told for the numbers of sums. */
    private static void numbersInSums() {
        fine(TWO + "when 0 < 999999 and retro a write 999999 + 000000 of l;");
    }

    /** Errors 2 and 3: "told ahead", of a planet or of an alphabet. */
    private static void toldAhead() {
        text("planet a rail 1 speed 1;planet a rail 1 speed 1;", 2, 31);
        text("planet a rail 1 speed 1;planet b rail 1 speed 1;planet a rail 1 speed 1;", 2, 55);
        text("alphabet a x;alphabet a x;", 2, 22);
        fine("planet a rail 1 speed 1;alphabet a x;planet b rail 1 speed 1;alphabet b x;");
        fine("alphabet a x;planet a rail 1 speed 1;alphabet b x;planet b rail 1 speed 1;");
        fine("alphabet a a;alphabet b a;");
        fine("planet x rail 1 speed 1;alphabet a x;");
        text(TWO + "when retro l write 1 of l;", 3, TWO.length() + 11);
        text(TWO + "when retro a write 1 of a;", 3, TWO.length() + 24);
        text(TWO + "when at aa = 1 write 1 of l;", 3, TWO.length() + 8);
        text(TWO + "when retro c write 1 of l; planet c rail 1 speed 1;", 3, TWO.length() + 11);
        fine(TWO + "planet c rail 1 speed 1; when retro c write 1 of l;");
        text(TWO + "when retro a write 1 of k; alphabet k x;", 3, TWO.length() + 24);
        fine(TWO + "alphabet k x; when retro a write 1 of k;");
        String[] asks = {"transit #", "transit a #", "opposite #", "opposite b #", "retro #", "at # = 1", "lap # = 1",
            "gap # = 1", "gap a # = 1", "1 = at #", "not retro #", "[retro #]", "min(1, lap #) = 1", "-(at #) = 1"};
        for (String ask : asks) {
            String test = ask.startsWith("transit #") || ask.startsWith("opposite #") || ask.startsWith("gap #")
                ? ask.replace("#", "# a") : ask;
            int place = TWO.length() + 5 + test.indexOf('#');
            text(TWO + "when " + test.replace("#", "c") + " write 1 of l;", 3, place);
            text(TWO + "when " + test.replace("#", "l") + " write 1 of l;", 3, place);
        }
    }

    /** Two names are one only if all of their bytes are: they differ in the second or the twelfth one, or by one more. */
    private static void namesByOneSign() {
        String signs = ALL + "0123456789";
        for (String ahead : new String[] {"q", "q9zq9zq9zq9"}) {
            String bare = "planet " + ahead + " rail 1 speed 1;";
            for (int i = 0; i < signs.length(); i++) {
                String first = "planet " + ahead + signs.charAt(i) + " rail 1 speed 1;";
                fine(bare + first);
                fine(first + bare);
                for (int k = 0; k < signs.length(); k++) {
                    String second = "planet " + ahead + signs.charAt(k) + " rail 1 speed 1;";
                    text(first + second, i == k ? 2 : 0, i == k ? first.length() + 7 : -1);
                }
            }
        }
        for (int i = 0; i < 25; i++) {
            for (String end : new String[] {"z", "0", "8", "9"}) {
                for (String start : new String[] {"", "a", "b", "z", "0"}) {
                    fine("planet " + ALL.charAt(i) + end + " rail 1 speed 1;planet " + ALL.charAt(i + 1) + start + " rail 1 speed 1;");
                }
            }
        }
        text("planet az rail 1 speed 1; alphabet az x; when retro a0 write 1 of az;", 3, 52);
        text("planet az rail 1 speed 1; alphabet az x; when retro az write 1 of a0;", 3, 66);
    }

    /** Error 6: "of two planets behind transit, opposite or gap the second one is the first one" */
    private static void samePlanet() {
        String[] asks = {"transit ", "opposite ", "gap "};
        for (String ask : asks) {
            String behind = ask.equals("gap ") ? " = 1" : "";
            for (String first : new String[] {"a", "b"}) {
                for (String second : new String[] {"a", "b"}) {
                    boolean isFine = !first.equals(second);
                    text(TWO + "when " + ask + first + " " + second + behind + " write 1 of l;", isFine ? 0 : 6,
                        isFine ? -1 : TWO.length() + 5 + ask.length() + 2);
                }
            }
        }
        text(TWO + "when 1 = 1 write 1 + gap b b of l;", 6, TWO.length() + 27);
        fine("planet a rail 1 speed 1; planet aa rail 1 speed 1; alphabet l x; when transit a aa and opposite aa a write 1 of l;");
        fine(TWO + "when gap a b = gap b a and at a = at a write lap a - lap a of l;");
    }

    /** Error 7: "letters in which a digit stands, or a letter twice" */
    private static void letters() {
        for (int n = 2; n <= 12; n++) {
            String letters = ALL.substring(0, n);
            fine("alphabet l " + letters + ";");
            for (int i = 1; i < n; i++) {
                for (char digit : new char[] {'0', '5', '9'}) {
                    text("alphabet l " + letters.substring(0, i) + digit + letters.substring(i + 1) + ";", 7, 11);
                }
                for (int k = 0; k < i; k++) {
                    text("alphabet l " + letters.substring(0, i) + letters.charAt(k) + letters.substring(i + 1) + ";", 7, 11);
                }
            }
        }
        fine("alphabet l abcdefghijkl; alphabet m mnopqrstuvwx; alphabet n yz; alphabet o a; alphabet q zyx;");
        fine("alphabet l1 x; alphabet ll x;");
    }

    /** "Planets, alphabets and rules are numbered from 0 in the order in which they are told": eight, six and twelve. */
    private static void mostOfAll() {
        StringBuilder text = new StringBuilder();
        for (int i = 0; i < 8; i++) {
            text.append("planet p").append(i).append(" rail ").append(i + 1).append(" speed ").append(10 + i)
                .append(i % 2 == 0 ? " from " + 40 * i : "").append(i % 3 == 0 ? " retro " + i + " every " + (i + 20) : "")
                .append(i < 6 ? "; alphabet a" + i + " " + ALL.substring(i, 2 * i + 1) + ";" : ";");
        }
        for (int i = 0; i < 12; i++) {
            text.append("when day >= ").append(i).append(" write 0 of a").append(i % 6).append(';');
        }
        ShadowSpell spell = Texts.taught(text.toString());
        for (int i = 0; i < 8; i++) {
            int[] facts = {i + 1, 10 + i, i % 2 == 0 ? 40 * i : 0, 0, i % 3 == 0 ? i : 0, i % 3 == 0 ? i + 20 : 1};
            for (int what = 0; what < facts.length; what++) {
                CHECK.due("planet(" + i + ", " + what + ")", facts[what], spell.planet(i, what));
            }
        }
        for (int i = 0; i < 6; i++) {
            for (int k = 0; k <= i; k++) {
                CHECK.due("letter(" + i + ", " + k + ")", 'a' + i + k, spell.letter(i, k));
            }
        }
        // 2 letters on the day 1, one more on each day behind it, 12 on the day 11.
        CHECK.due("pass(11)", 77, spell.pass(11));
        for (int i = 0; i < 12; i++) {
            CHECK.due("wrote(" + i + ")", i == 0 ? 11 : 12 - i, spell.wrote(i));
        }
    }

    /** Error 4: "the name of the 9th planet, or of the 7th alphabet, or the when of the 13th rule" */
    private static void oneTooMany() {
        fine(EIGHT);
        text(EIGHT + "planet p9 rail 0 speed 0;", 4, EIGHT.length() + 7);
        String six = "alphabet a x;alphabet b x;alphabet c x;alphabet d x;alphabet e x;alphabet f x;";
        fine(six);
        text(six + "alphabet g xx;", 4, six.length() + 9);
        for (int rules = 11; rules <= 14; rules++) {
            String twelve = TWO + Texts.times(Math.min(rules, 12), "when retro a write 1 of l;");
            String all = TWO + Texts.times(rules, "when retro a write 1 of l;");
            text(all, rules <= 12 ? 0 : 4, rules <= 12 ? -1 : twelve.length());
        }
        String twelve = TWO + Texts.times(12, "when retro a write 1 of l;");
        text(twelve + "when retro c write 1 of l;", 4, twelve.length());
        text(twelve + "planet c rail 1 speed 1; alphabet m x; when retro c write 1 of m;", 4, twelve.length() + 39);
        fine(twelve + "planet c rail 1 speed 1; alphabet m x;");
    }

    /** Each text is read for itself: what an earlier one told is not "told ahead", nor is it counted. */
    private static void oldNamesAreForgotten() {
        ShadowSpell spell = new ShadowSpell();
        String six = "alphabet l x;alphabet b x;alphabet c x;alphabet d x;alphabet e x;alphabet f x;";
        String most = EIGHT.replace("alphabet l xyz;", six) + Texts.times(12, "when retro p1 write 1 of l;");
        for (int i = 0; i < 3; i++) {
            CHECK.due("teach() of most, again", 0, Texts.teach(spell, most));
        }
        CHECK.due("teach() with an old planet", 3, Texts.teach(spell, "alphabet l x; when retro p1 write 1 of l;"));
        CHECK.due("errorAt()", 25, spell.errorAt());
        CHECK.due("teach() with an old alphabet", 3, Texts.teach(spell, "planet p1 rail 1 speed 1; when retro p1 write 1 of l;"));
        CHECK.due("errorAt()", 51, spell.errorAt());
        CHECK.due("all stays", 26, spell.count(1) + spell.count(2) + spell.count(3));
        // What a text with an error told is forgotten too.
        CHECK.due("teach() of new names and an error", 1, Texts.teach(spell, "planet q rail 1 speed 1; alphabet m x; ?"));
        CHECK.due("teach() with them", 3, Texts.teach(spell, "alphabet l x; when retro q write 1 of l;"));
        CHECK.due("teach() with them", 3, Texts.teach(spell, "when 1 = 1 write 1 of m;"));
        CHECK.due("teach() of most, again", 0, Texts.teach(spell, most));
    }

    /** "the error of the latest teach(); -1 if it had none, or there was none" */
    private static void errorAt() {
        ShadowSpell spell = new ShadowSpell();
        CHECK.due("errorAt(), there was no teach()", -1, spell.errorAt());
        Texts.put(spell, "  ?");
        CHECK.due("errorAt(), not yet", -1, spell.errorAt());
        CHECK.due("teach()", 1, spell.teach());
        CHECK.due("errorAt()", 2, spell.errorAt());
        CHECK.due("errorAt() again", 2, spell.errorAt());
        Texts.put(spell, TWO);
        CHECK.due("errorAt(), the tape is fed", 2, spell.errorAt());
        CHECK.due("teach()", 0, spell.teach());
        CHECK.due("errorAt(), the latest has none", -1, spell.errorAt());
        CHECK.due("teach()", 7, Texts.teach(spell, "alphabet l x1;"));
        CHECK.due("errorAt()", 11, spell.errorAt());
        CHECK.due("teach()", 1, Texts.teach(spell, "?"));
        CHECK.due("errorAt()", 0, spell.errorAt());
        spell.pass(3);
        CHECK.due("errorAt() days later", 0, spell.errorAt());
    }
}
