/** Promises 1 to 6: a new object, the tape, the language, and what is counted. */
public final class LanguageTest {
    private static final Check CHECK = new Check();
    private static final String TWO = "planet a rail 1 speed 1; planet b rail 2 speed 2; alphabet l xyz; ";

    public static void main(String[] args) {
        newObject();
        feed();
        trim();
        tokens();
        grammar();
        cutAndGoOn();
        names();
        depth();
        manyTokens();
        laterErrors();
        orderOfErrors();
        teachReplaces();
        teachOften();
        teachForgetsYesterday();
        errorStays();
        counts();
        CHECK.end();
    }

    private static void newObject() {
        ShadowSpell spell = new ShadowSpell();
        for (int what = 0; what <= 7; what++) {
            CHECK.due("new: count(" + what + ")", 0, spell.count(what));
        }
        CHECK.due("new: errorAt()", -1, spell.errorAt());
        long d = 727;
        for (int i = 0; i < 8; i++) {
            d *= 31;
        }
        CHECK.due("new: digest()", d, spell.digest());
        CHECK.dueDouble("new: mean()", 0, spell.mean());
    }

    private static void feed() {
        ShadowSpell spell = new ShadowSpell();
        for (int i = 1; i <= 100; i++) {
            CHECK.due("feed, the " + i + "th", 20 * i, spell.feed(1, 2, 3, 4, 5));
        }
        CHECK.due("count(4), full", 2000, spell.count(4));
        CHECK.dueThrow("feed, full", spell, IllegalStateException.class, () -> spell.feed(0, 0, 0, 0, 0));
        spell.trim(1981);
        CHECK.dueThrow("feed, room for 19", spell, IllegalStateException.class, () -> spell.feed(0, 0, 0, 0, 0));
        spell.trim(1980);
        CHECK.due("feed, room for 20", 2000, spell.feed(0, 0, 0, 0, 0));
        order();
    }

    /** The bytes are seen by the text that they are. */
    private static void order() {
        ShadowSpell spell = new ShadowSpell();
        spell.feed('a' << 24 | 'l' << 16 | 'p' << 8 | 'h', 'a' << 24 | 'b' << 16 | 'e' << 8 | 't',
            ' ' << 24 | 'x' << 16 | ' ' << 8 | 'k', 'l' << 24 | 'm' << 16 | 'n' << 8 | 'o',
            'p' << 24 | 'q' << 16 | 'r' << 8 | ';');
        CHECK.due("teach(), fed in order", 0, spell.teach());
        String letters = "klmnopqr";
        for (int i = 0; i < 8; i++) {
            CHECK.due("letter(0, " + i + ")", letters.charAt(i), spell.letter(0, i));
        }
        spell.feed(0x20202020, 0x202020ff, -1, -1, -1);
        CHECK.due("teach(), a byte 255", 1, spell.teach());
        CHECK.due("errorAt(), a byte 255", 7, spell.errorAt());
    }

    private static void trim() {
        ShadowSpell spell = new ShadowSpell();
        CHECK.due("trim(0), empty", 0, spell.trim(0));
        CHECK.dueThrow("trim(1), empty", spell, IllegalArgumentException.class, () -> spell.trim(1));
        CHECK.dueThrow("trim(-1), empty", spell, IllegalArgumentException.class, () -> spell.trim(-1));
        Texts.put(spell, "alphabet a abc; zzzz");
        CHECK.dueThrow("trim(21)", spell, IllegalArgumentException.class, () -> spell.trim(21));
        CHECK.dueThrow("trim(-1)", spell, IllegalArgumentException.class, () -> spell.trim(-1));
        CHECK.dueThrow("trim(least)", spell, IllegalArgumentException.class, () -> spell.trim(Integer.MIN_VALUE));
        CHECK.due("trim(20)", 20, spell.trim(20));
        CHECK.due("trim(15)", 15, spell.trim(15));
        CHECK.due("count(4)", 15, spell.count(4));
        CHECK.due("teach(), trimmed", 0, spell.teach());
        // What was cut off is not read: < stands at the end, not <=.
        Texts.put(spell, "when 1 <= 2");
        spell.trim(8);
        CHECK.due("teach(), trimmed in a token", 1, spell.teach());
        CHECK.due("errorAt(), trimmed in a token", 8, spell.errorAt());
    }

    private static void text(String text, int error, int place) {
        Texts.dueError(CHECK, text, error, place);
    }

    private static void fine(String text) {
        text(text, 0, -1);
    }

    private static void rule(String test, String sum) {
        fine(TWO + "when " + test + " write " + sum + " of l;");
    }

    /** The error's place is counted from behind the ahead told planets. */
    private static void badRule(String rule, int error, int place) {
        text(TWO + rule, error, TWO.length() + place);
    }

    private static void tokens() {
        fine("");
        fine(" \n \n");
        fine("\nplanet\na\nrail\n1\nspeed\n1\n;\n");
        fine("planet a rail 1speed 1;");
        fine("planet a rail 000001 speed 000060from 000359retro 0every 1;");
        fine("planet planets rail 1 speed 1;");
        fine("planet abcdefghij12 rail 1 speed 1;");
        fine("planet z9 rail 1 speed 1;");
        fine("alphabet a abcdefghijkl;");
        rule("1<=2", "1");
        rule("1>=2and-1<-2", "1--1");
        text("planet abcdefghij123 rail 1 speed 1;", 1, 7);
        text("planet a rail 0000001 speed 1;", 1, 14);
        text("alphabet a abcdefghijklm;", 1, 11);
        text("planet 1a rail 1 speed 1;", 1, 7);
        text("planet A rail 1 speed 1;", 1, 7);
        text("planet a_ rail 1 speed 1;", 1, 8);
        text("planeta rail 1 speed 1;", 1, 0);
        text("planet arail 1 speed 1;", 1, 13);
        text("\t", 1, 0);
        text("planet a rail 1\r speed 1;", 1, 15);
        badRule("when 1 < = 2 write 1 of l;", 1, 9);
        badRule("when 1 => 2 write 1 of l;", 1, 8);
        badRule("when 1 =< 2 write 1 of l;", 1, 8);
        badRule("when 1 ! 2 write 1 of l;", 1, 7);
    }

    private static void grammar() {
        rule("transit a b", "day");
        rule("opposite b a", "length");
        rule("retro a", "at a + lap b - gap a b");
        rule("not retro a and [1 = 2 or not not 3 > 4]", "min(1, 2) * max(day, -3) / (4) % 5");
        rule("(1) + 2 < 3", "999999");
        rule("[[1 = 1]]", "((1))");
        text("planet", 1, 6);
        text("planet ", 1, 7);
        text("planet a rail 1 speed 1", 1, 23);
        text("planet a rail 1 speed 1 \n", 1, 25);
        text("planet rail rail 1 speed 1;", 1, 7);
        text("planet a rail b speed 1;", 1, 14);
        text("planet a speed 1 rail 1;", 1, 9);
        text("planet a rail 1 speed 1 every 5;", 1, 24);
        text("planet a rail 1 speed 1 retro 5;", 1, 31);
        text("planet a rail 1 speed 1 retro 1 every 5 from 3;", 1, 40);
        text("planet a rail 1 speed 1 from 3 from 3;", 1, 31);
        text("planet a rail 1 speed 1;;", 1, 24);
        text("planet a rail -1 speed 1;", 1, 14);
        text("alphabet a day;", 1, 11);
        text("alphabet at abc;", 1, 9);
        text("alphabet a 5;", 1, 11);
        text("alphabet a;", 1, 10);
        text("alphabet a b c;", 1, 13);
        text("rule", 1, 0);
        text("5", 1, 0);
        text(";", 1, 0);
        badRule("when write 1 of l;", 1, 5);
        badRule("when 1 write 1 of l;", 1, 7);
        badRule("when 1 + 2 write 1 of l;", 1, 11);
        badRule("when [1] = 1 write 1 of l;", 1, 7);
        badRule("when (1 = 1) write 1 of l;", 1, 8);
        badRule("when 1 = 1 = 1 write 1 of l;", 1, 11);
        badRule("when 1 = 1 or write 1 of l;", 1, 14);
        badRule("when not write 1 of l;", 1, 9);
        badRule("when transit a write 1 of l;", 1, 15);
        badRule("when transit 1 b write 1 of l;", 1, 13);
        badRule("when retro a b write 1 of l;", 1, 13);
        badRule("when retro a = 1 write 1 of l;", 1, 13);
        badRule("when at a write 1 of l;", 1, 10);
        badRule("when lap = 1 write 1 of l;", 1, 9);
        badRule("when gap a = 1 write 1 of l;", 1, 11);
        badRule("when a = 1 write 1 of l;", 1, 5);
        badRule("when 1 = 1 write 1 = 1 of l;", 1, 19);
        badRule("when 1 = 1 write retro a of l;", 1, 17);
        badRule("when 1 = 1 write min 1 of l;", 1, 21);
        badRule("when 1 = 1 write min(1) of l;", 1, 22);
        badRule("when 1 = 1 write min(1, 2, 3) of l;", 1, 25);
        badRule("when 1 = 1 write max(1; 2) of l;", 1, 22);
        badRule("when 1 = 1 write + 1 of l;", 1, 17);
        badRule("when 1 = 1 write 1 + of l;", 1, 21);
        badRule("when 1 = 1 write (1 of l;", 1, 20);
        badRule("when 1 = 1 write 1) of l;", 1, 18);
        badRule("when [1 = 1 write 1 of l;", 1, 12);
        badRule("when 1 = 1 write 1 of l", 1, 23);
        badRule("when 1 = 1 write 1 of 1;", 1, 22);
        badRule("when 1 = 1 write 1 l;", 1, 19);
        badRule("when 1 = 1 and write 1 of l;", 1, 15);
    }

    /** Behind each token the tape ends, or a new sentence begins: both are wrong but behind a sentence. */
    private static void cutAndGoOn() {
        String[] sentences = {"planet c rail 1 speed 1 from 2 retro 1 every 2 ;", "alphabet k pqr ;",
            "when transit a b or opposite a b and not [ retro a ] write - ( at a ) of l ;",
            "when 1 + lap a = 2 * length / 3 and day <= 4 - 5 write min ( gap a b , max ( 1 , 2 ) ) % 3 of l ;"};
        for (String sentence : sentences) {
            int place = sentence.indexOf(' ');
            while (place >= 0) {
                String part = sentence.substring(0, place);
                badRule(part, 1, place);
                badRule(part + "\n", 1, place + 1);
                badRule(part + " planet d rail 1 speed 1;", 1, place + 1);
                badRule(part + " alphabet d xy;", 1, place + 1);
                badRule(part + " when 1 = 1 write 1 of l;", 1, place + 1);
                badRule(part + " ?", 1, place + 1);
                place = sentence.indexOf(' ', place + 1);
            }
            badRule(sentence + " ?", 1, sentence.length() + 1);
            fine(TWO + sentence + " planet d rail 1 speed 1;");
        }
    }

    /** Names that are alike are not the same. */
    private static void names() {
        String[] names = {"a", "aa", "aaa", "b", "ab", "ba", "z", "z0", "z9", "a0", "a1", "a00", "aaaaaaaaaaaa",
            "aaaaaaaaaaab", "baaaaaaaaaaa", "zzzzzzzzzzzz", "z99999999999", "z99999999990"};
        for (String one : names) {
            for (String other : names) {
                String text = "planet " + one + " rail 1 speed 1; planet ";
                text(text + other + " rail 1 speed 1;", one.equals(other) ? 2 : 0, one.equals(other) ? text.length() : -1);
            }
        }
    }

    private static void depth() {
        for (int n = 7; n <= 9; n++) {
            boolean isFine = n <= 8;
            deep(isFine, Texts.times(n, "("), "1" + Texts.times(n, ")") + " = 1");
            deep(isFine, Texts.times(n, "["), "1 = 1" + Texts.times(n, "]"));
            deep(isFine, Texts.times(n, "-"), "1 = 1");
            deep(isFine, Texts.times(n, "not "), "1 = 1");
            deep(isFine, "not [" + Texts.times(n - 2, "-"), "1 = 1]");
            deep(isFine, "[not -" + Texts.times(n - 3, "("), "1" + Texts.times(n - 3, ")") + " = 1]");
            deep(isFine, Texts.times(n, "max("), "1" + Texts.times(n, ", 2)") + " = 1");
        }
        rule("((((((((1)))))))) = ((((((((1))))))))", "((((((((1)))))))) - --------1");
        rule("[[[[[[[[1 = 1]]]]]]]] and not not not not not not not not 1 = 1", "1 - 1 - 1 - 1 - 1 - 1 - 1 - 1 - 1");
        rule("min(1, ((((((( 1))))))) ) = 1", "1");
        badRule("when min(1, (((((((( 1)))))))) ) = 1 write 1 of l;", 1, 19);
        badRule("when 1 = 1 write (((((((( -1 )))))))) of l;", 1, 26);
        badRule("when 1 = 1 write -------- (1) of l;", 1, 26);
        badRule("when 1 = 1 write -------- min(1, 2) of l;", 1, 29);
        badRule("when [[[[[[[[ not 1 = 1 ]]]]]]]] write 1 of l;", 1, 14);
    }

    /** The last token that goes deeper is the wrong one, unless all is fine. */
    private static void deep(boolean isFine, String front, String back) {
        if (isFine) {
            rule(front + back, "1");
            return;
        }
        int last = Math.max(Math.max(front.lastIndexOf('('), front.lastIndexOf('[')),
            Math.max(front.lastIndexOf('-'), front.lastIndexOf("not")));
        badRule("when " + front + back + " write 1 of l;", 1, 5 + last);
    }

    private static void manyTokens() {
        String start = "alphabet l xy; when 1 = 1 write 1";
        // 10 tokens, 386 and 3 more: with one - there are 400, with two the last one is too many.
        String most = start + Texts.times(193, "+1") + " of l;";
        CHECK.due("bytes of many tokens", true, most.length() < 1900);
        text(most.replace("when 1", "when -1"), 0, -1);
        text(most.replace("when 1", "when -1") + "\n", 0, -1);
        text(most.replace("when 1", "when -1") + ";", 1, most.length() + 1);
        text(most.replace("when 1", "when - -1"), 1, most.length() + 2);
        text(most.replace("when 1", "when - -1") + "alphabet", 1, most.length() + 2);
        // 402 and more tokens: the 401st is that of the error, whatever stands behind it.
        text(start + Texts.times(300, "+1"), 1, start.length() + 390);
        text(start + Texts.times(195, "+1"), 1, start.length() + 390);
        text(start + Texts.times(190, "+1") + " 5", 1, start.length() + 381);
    }

    private static void laterErrors() {
        text("planet a rail 1 speed 1; planet a rail 1 speed 1;", 2, 32);
        text("alphabet a x; alphabet a y;", 2, 23);
        fine("planet a rail 1 speed 1; alphabet a x;");
        badRule("when transit c b write 1 of l;", 3, 13);
        badRule("when transit a c write 1 of l;", 3, 15);
        badRule("when opposite l b write 1 of l;", 3, 14);
        badRule("when retro c write 1 of l;", 3, 11);
        badRule("when at c = 1 write 1 of l;", 3, 8);
        badRule("when lap c = 1 write 1 of l;", 3, 9);
        badRule("when gap c b = 1 write 1 of l;", 3, 9);
        badRule("when 1 = 1 write 1 of a;", 3, 22);
        badRule("when 1 = 1 write 1 of k; alphabet k x;", 3, 22);
        badRule("when retro c write 1 of l; planet c rail 1 speed 1;", 3, 11);
        many();
        text("planet a rail 0 speed 1;", 5, 14);
        text("planet a rail 21 speed 1;", 5, 14);
        fine("planet a rail 20 speed 60;");
        text("planet a rail 1 speed 0;", 5, 22);
        text("planet a rail 1 speed 61;", 5, 22);
        fine("planet a rail 1 speed 1 from 359;");
        text("planet a rail 1 speed 1 from 360;", 5, 29);
        fine("planet a rail 1 speed 1 retro 29 every 30;");
        fine("planet a rail 1 speed 1 retro 29 every 60;");
        text("planet a rail 1 speed 1 retro 30 every 31;", 5, 30);
        text("planet a rail 1 speed 1 retro 0 every 0;", 5, 38);
        fine("planet a rail 1 speed 1 retro 0 every 1;");
        text("planet a rail 1 speed 1 retro 5 every 61;", 5, 38);
        text("planet a rail 1 speed 1 retro 5 every 5;", 5, 38);
        fine("planet a rail 1 speed 1 from 0 retro 5 every 6;");
        badRule("when transit a a write 1 of l;", 6, 15);
        badRule("when opposite b b write 1 of l;", 6, 16);
        badRule("when gap a a = 1 write 1 of l;", 6, 11);
        badRule("when 1 = 1 write gap b b of l;", 6, 23);
        text("alphabet a aba;", 7, 11);
        text("alphabet a a1;", 7, 11);
        text("alphabet a bcdefghijklb;", 7, 11);
        fine("alphabet a1 abcdefghijkl;");
    }

    private static void many() {
        StringBuilder text = new StringBuilder();
        for (int i = 0; i < 8; i++) {
            text.append("planet p").append(i).append(" rail 1 speed 1;");
        }
        fine(text.toString());
        text(text + "planet p9 rail 1 speed 1;", 4, text.length() + 7);
        text(text + "planet p3 rail 1 speed 1;", 2, text.length() + 7);
        text.setLength(0);
        for (int i = 0; i < 6; i++) {
            text.append("alphabet a").append(i).append(" xy;");
        }
        fine(text.toString());
        text(text + "alphabet a9 xx;", 4, text.length() + 9);
        text(text + "alphabet a5 xy;", 2, text.length() + 9);
        String rules = TWO + Texts.times(12, "when 1 = 1 write 1 of l;");
        fine(rules);
        text(rules + "when retro c write 1 of l;", 4, rules.length());
        text(rules + "planet c rail 1 speed 1; when retro c write 1 of l;", 4, rules.length() + 25);
    }

    private static void orderOfErrors() {
        text("planet a rail 99 speed 99; planet a rail 1 speed 1;", 5, 14);
        text("planet a rail 1 speed 99; planet a rail 1 speed 1", 1, 49);
        text("alphabet a aa; ?", 1, 15);
        badRule("when transit c c write 1 of l;", 3, 13);
        badRule("when transit a a write 1 of k;", 6, 15);
        badRule("when gap a c = gap a a write 1 of k;", 3, 11);
        text("alphabet a aa; alphabet a x;", 7, 11);
    }

    private static void teachReplaces() {
        ShadowSpell spell = Texts.taught("planet a rail 1 speed 50; planet b rail 2 speed 2; alphabet l xyz; when 1 = 1 write day of l;");
        spell.pass(8);
        CHECK.due("wrote(0)", 8, spell.wrote(0));
        CHECK.due("lap", 1, spell.planet(0, 3));
        CHECK.due("teach() anew", 0, Texts.teach(spell, "planet c rail 3 speed 3 from 7; alphabet k pq;"
            + " alphabet m r; when 1 = 2 write 1 of k; when 1 = 1 write 1 of m;"));
        CHECK.due("day stays", 8, spell.count(0));
        CHECK.due("paper stays", 8, spell.count(5));
        CHECK.due("planets", 1, spell.count(1));
        CHECK.due("alphabets", 2, spell.count(2));
        CHECK.due("rules", 2, spell.count(3));
        CHECK.due("angle", 7, spell.planet(0, 2));
        CHECK.due("lap", 0, spell.planet(0, 3));
        CHECK.due("retro", 0, spell.planet(0, 4));
        CHECK.due("every", 1, spell.planet(0, 5));
        CHECK.due("wrote(0) anew", 0, spell.wrote(0));
        CHECK.due("letter(0, 0)", 'p', spell.letter(0, 0));
        CHECK.due("teach() of nothing", 0, Texts.teach(spell, ""));
        CHECK.due("no planets", 0, spell.count(1) + spell.count(2) + spell.count(3));
        CHECK.due("day stays", 8, spell.count(0));
    }

    /** What one text needs is free for the next one. */
    private static void teachOften() {
        ShadowSpell spell = new ShadowSpell();
        for (int i = 1; i <= 9; i++) {
            String most = "alphabet l abcdefghijkl; when 1 = 1 write " + i + Texts.times(180, "+0") + " of l;";
            CHECK.due("teach() of a long text", 0, Texts.teach(spell, most));
            CHECK.due("teach() of a wrong text", 1, Texts.teach(spell, most + ";"));
            CHECK.due("pass(1)", 1, spell.pass(1));
            CHECK.due("letter", "abcdefghijkl".charAt(i % 12), spell.byteAt(i - 1));
        }
    }

    private static void teachForgetsYesterday() {
        ShadowSpell spell = Texts.taught("planet a rail 1 speed 10 from 355; planet b rail 1 speed 1;");
        spell.pass(1);
        CHECK.due("met, from -5 to 4", true, spell.meets(0, 1, false));
        CHECK.due("teach()", 0, Texts.teach(spell, "planet a rail 1 speed 1 from 5; planet b rail 1 speed 1 from 1;"));
        CHECK.due("met, told at 4", false, spell.meets(0, 1, false));
        CHECK.due("count(7)", 0, spell.count(7));
    }

    private static void errorStays() {
        ShadowSpell spell = Texts.taught("planet a rail 1 speed 50; planet b rail 2 speed 2; alphabet l xyz;"
            + " when not transit a b write day of l;");
        spell.pass(9);
        long before = spell.digest();
        String[] wrong = {"x", "planet a rail 1 speed 0;", "alphabet k pq; when 1 = 1 write 1 of m;",
            "planet c rail 3 speed 3; alphabet k pq; when 2 = 2 write 1 of k;;", "alphabet z aa;"};
        for (int i = 0; i < wrong.length; i++) {
            CHECK.due("teach() of " + wrong[i], true, Texts.teach(spell, wrong[i]) != 0);
            CHECK.due("digest() behind teach() of " + wrong[i], before, spell.digest());
        }
        CHECK.due("errorAt()", 11, spell.errorAt());
        spell.pass(1);
        Texts.put(spell, "planet");
        CHECK.due("errorAt() later", 11, spell.errorAt());
        // On the day 8 both are in transit.
        CHECK.due("wrote goes on", 9, spell.wrote(0));
        CHECK.due("letter", 'y', spell.byteAt(8));
        spell.trim(0);
        spell.teach();
        CHECK.due("errorAt() behind no error", -1, spell.errorAt());
    }

    private static void counts() {
        ShadowSpell spell = Texts.taught("planet a rail 1 speed 1 retro 1 every 2; planet b rail 1 speed 1;"
            + "planet c rail 1 speed 1 from 5 retro 1 every 3; alphabet l xyz; alphabet m a;"
            + "when retro a write 1 of l; when retro c write 1 of l; when day > 2 write 0 of m;"
            + "when day > 2 write 0 of m;");
        Texts.put(spell, "four");
        long[] first = {0, 3, 2, 4, 4, 0, 2, 1};
        long[] third = {3, 3, 2, 4, 4, 4, 1, 0};
        for (int what = 0; what <= 7; what++) {
            CHECK.due("count(" + what + ")", first[what], spell.count(what));
        }
        spell.pass(3);
        for (int what = 0; what <= 7; what++) {
            CHECK.due("count(" + what + ") on day 3", third[what], spell.count(what));
        }
        CHECK.dueThrow("count(8)", spell, IndexOutOfBoundsException.class, () -> spell.count(8));
        CHECK.dueThrow("count(-1)", spell, IndexOutOfBoundsException.class, () -> spell.count(-1));
        CHECK.dueThrow("count(least)", spell, IndexOutOfBoundsException.class, () -> spell.count(Integer.MIN_VALUE));
    }
}
