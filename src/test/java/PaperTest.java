/** Promises 13 to 17: days, what rules write in them, and the paper. */
public final class PaperTest {
    private static final Check CHECK = new Check();
    private static final Class<?> NO_INDEX = IndexOutOfBoundsException.class;
    private static final Class<?> NO_ARGUMENT = IllegalArgumentException.class;
    private static final String SKY = "planet a rail 2 speed 50 from 100 retro 1 every 3; planet b rail 1 speed 20;"
        + "planet c rail 2 speed 1 from 280; alphabet l abcdefghij; alphabet m klmno; alphabet n p;";

    public static void main(String[] args) {
        pass();
        fullPaper();
        letters();
        sums();
        tests();
        rails();
        orderOfDay();
        byteAt();
        clear();
        find();
        translate();
        CHECK.end();
    }

    private static void pass() {
        ShadowSpell spell = Texts.taught("alphabet l ab; when day > 2 write day of l; when day > 3 write 0 of l;");
        CHECK.due("pass(2)", 0, spell.pass(2));
        CHECK.due("pass(1)", 1, spell.pass(1));
        CHECK.due("pass(2), two rules", 4, spell.pass(2));
        CHECK.due("day", 5, spell.count(0));
        CHECK.dueThrow("pass(0)", spell, NO_ARGUMENT, () -> spell.pass(0));
        CHECK.dueThrow("pass(-1)", spell, NO_ARGUMENT, () -> spell.pass(-1));
        CHECK.dueThrow("pass(301)", spell, NO_ARGUMENT, () -> spell.pass(301));
        CHECK.dueThrow("pass(most)", spell, NO_ARGUMENT, () -> spell.pass(Integer.MAX_VALUE));
        ShadowSpell empty = new ShadowSpell();
        CHECK.due("pass(300) of nothing", 0, empty.pass(300));
        CHECK.due("day 300", 300, empty.count(0));
    }

    private static void fullPaper() {
        ShadowSpell spell = Texts.taught("alphabet l ab; when 1 = 1 write 0 of l; when 1 = 1 write 1 of l;"
            + "when length % 2 = 0 write 0 of l;");
        // 3 on the day 1, which makes the length odd at the third rule for ever.
        CHECK.due("pass(100)", 201, spell.pass(100));
        CHECK.due("pass(300), full in between", 399, spell.pass(300));
        CHECK.due("bytes", 600, spell.count(5));
        CHECK.due("wrote, added", 600, spell.wrote(0) + spell.wrote(1) + spell.wrote(2));
        CHECK.due("days", 400, spell.count(0));
        CHECK.due("pass(1), full", 0, spell.pass(1));
        CHECK.due("clear()", 600, spell.clear());
        CHECK.due("pass(1), cleared", 3, spell.pass(1));
        CHECK.due("wrote, added, cleared", 603, spell.wrote(0) + spell.wrote(1) + spell.wrote(2));
    }

    private static void letters() {
        String[] sums = {"0", "9", "10", "25", "-1", "-10", "-11", "day", "999999 * 999999"};
        // 999999 * 999999 wraps around to -729379967: -7 of 10, which is the letter 3.
        String want = "ajafjajbd";
        for (int i = 0; i < sums.length; i++) {
            ShadowSpell spell = Texts.taught(SKY + "when 1 = 1 write " + sums[i] + " of l;");
            spell.pass(1);
            CHECK.due("the letter of " + sums[i], want.charAt(i), spell.byteAt(0));
        }
        ShadowSpell one = Texts.taught(SKY + "when 1 = 1 write -5 of n; when 1 = 1 write 7 of m;");
        one.pass(1);
        CHECK.due("the only letter", 'p', one.byteAt(0));
        CHECK.due("the letter 7 of 5", 'm', one.byteAt(1));
    }

    /** What a sum is on the day 4: told by a test for each of the values around it. */
    private static void sum(String sum, int want) {
        String value = want == Integer.MIN_VALUE ? "65536 * 32768" : want < 0 ? "-" + -want : "" + want;
        ShadowSpell spell = Texts.taught(SKY + "when " + sum + " = " + value + " write 0 of l;"
            + "when " + sum + " > " + value + " write 1 of l; when " + sum + " < " + value + " write 2 of l;");
        spell.pass(3);
        spell.clear();
        spell.pass(1);
        CHECK.due(sum + " is " + want + " (a), more (b) or less (c)", 'a', spell.byteAt(0));
        CHECK.due(sum + " is just one of these", 1, spell.count(5));
    }

    private static void sums() {
        sum("1 + 2 * 3", 7);
        sum("(1 + 2) * 3", 9);
        sum("10 - 4 - 3", 3);
        sum("100 / 10 / 3", 3);
        sum("100 / 7 * 7", 98);
        sum("17 % 10 % 4", 3);
        sum("2 * 7 % 4", 2);
        sum("-7 / 2", -3);
        sum("7 / -2", -3);
        sum("-7 % 3", -1);
        sum("7 % -3", 1);
        sum("-7 % -3", -1);
        sum("7 / 0", 0);
        sum("7 % 0", 0);
        sum("-7 / (1 - 1)", 0);
        sum("- - 3", 3);
        sum("-3 * -2", 6);
        sum("2 - -3", 5);
        sum("-2 + 3", 1);
        sum("-(2 + 3)", -5);
        sum("min(3, -4)", -4);
        sum("max(3, -4)", 3);
        sum("min(1 + 1, 5) + max(2 * 3, 5)", 8);
        sum("65536 * 65536", 0);
        sum("65536 * 32767 + 65535 + 1", Integer.MIN_VALUE);
        sum("(65536 * 32768) / -1", Integer.MIN_VALUE);
        sum("(65536 * 32768) % -1", 0);
        sum("-(65536 * 32768)", Integer.MIN_VALUE);
        sum("(65536 * 32768 - 1) / 10000", 214748);
        sum("(65536 * 32768 - 1) % 10000", 3647);
        sum("day", 4);
        // On the days 1 to 4 a goes 50 on, 50 on, 50 back, 50 on.
        sum("at a", 200);
        sum("at b", 80);
        sum("lap a", 0);
        sum("gap a b", 120);
        sum("gap b a", -120);
        sum("gap c a", 84);
        sum("at a - at b * 2", 40);
    }

    private static void test(String test, boolean want) {
        ShadowSpell spell = Texts.taught(SKY + "when " + test + " write 0 of l;");
        spell.pass(3);
        spell.clear();
        CHECK.due(test, want, spell.pass(1) == 1);
    }

    private static void tests() {
        test("1 < 2", true);
        test("2 < 2", false);
        test("2 <= 2", true);
        test("3 <= 2", false);
        test("2 > 1", true);
        test("2 > 2", false);
        test("2 >= 2", true);
        test("1 >= 2", false);
        test("2 = 2", true);
        test("2 = 1", false);
        test("-65536 * 32768 < 65536 * 32767", true);
        test("not 1 = 2", true);
        test("not not 1 = 2", false);
        test("not 1 = 2 and 1 = 2", false);
        test("not [1 = 2 and 1 = 2]", true);
        test("not 1 = 1 or 1 = 1", true);
        test("not [1 = 1 or 1 = 1]", false);
        test("1 = 1 or 1 = 1 and 1 = 2", true);
        test("[1 = 1 or 1 = 1] and 1 = 2", false);
        test("1 = 2 and 1 = 1 or 1 = 1", true);
        test("1 = 2 and [1 = 1 or 1 = 1]", false);
        test("1 = 2 or 1 = 2 or 1 = 1", true);
        test("1 = 1 and 1 = 1 and 1 = 2", false);
        test("retro a", false);
        test("not retro c", true);
        // The angles on the day 4: a 200, b 80, c 284, and on the day 3: a 150, b 60, c 283.
        test("transit a b", false);
        test("opposite b c", false);
        test("retro a or day % 3 = 1", true);
    }

    private static boolean writes(int railOfA, int railOfB, String test, int days) {
        ShadowSpell spell = Texts.taught("planet a rail " + railOfA + " speed 10 from 350; planet b rail " + railOfB
            + " speed 1 from 5; planet c rail 3 speed 2 from 175; alphabet l x; when " + test + " write 0 of l;");
        return spell.pass(days) > 0;
    }

    private static void rails() {
        // On the day 2 a passes b, from -6 to 3; on the days 1 and 2 it passes what is opposite c, from -5 to 3.
        CHECK.due("transit, first rail less", true, writes(1, 2, "transit a b", 2));
        CHECK.due("transit, not yet", false, writes(1, 2, "transit a b", 1));
        CHECK.due("transit, rails equal", true, writes(2, 2, "transit a b", 2));
        CHECK.due("transit, first rail greater", false, writes(3, 2, "transit a b", 2));
        CHECK.due("transit turned round", false, writes(1, 2, "transit b a", 2));
        CHECK.due("transit turned round, first rail less", true, writes(3, 2, "transit b a", 2));
        CHECK.due("opposite, first rail less", true, writes(1, 2, "opposite a c", 1));
        CHECK.due("opposite, first rail greater", true, writes(4, 2, "opposite a c", 1));
        CHECK.due("opposite turned round", true, writes(1, 2, "opposite c a", 1));
        CHECK.due("opposite, never", false, writes(1, 2, "opposite b c", 9));
        ShadowSpell spell = Texts.taught("planet a rail 3 speed 1; planet b rail 2 speed 1;");
        CHECK.due("meets does not ask for rails", true, spell.meets(0, 1, false));
        CHECK.due("count(7) does not ask for rails", 1, spell.count(7));
    }

    private static void orderOfDay() {
        ShadowSpell spell = Texts.taught("planet a rail 1 speed 9 retro 1 every 2; alphabet l abcdefghij;"
            + "when length = 0 write day of l; when length = 1 write at a of l; when length = 1 write 0 of l;"
            + "when length = 2 and not retro a write 3 of l; when retro a write 4 of l;");
        CHECK.due("pass(1)", 3, spell.pass(1));
        CHECK.due("pass(1)", 1, spell.pass(1));
        String want = "bjde";
        for (int i = 0; i < want.length(); i++) {
            CHECK.due("byteAt(" + i + ")", want.charAt(i), spell.byteAt(i));
        }
        CHECK.due("wrote(2)", 0, spell.wrote(2));
    }

    private static void byteAt() {
        ShadowSpell spell = Texts.taught("alphabet l abcdefghijkl; when 1 = 1 write day of l;");
        CHECK.dueThrow("byteAt(0), empty", spell, NO_INDEX, () -> spell.byteAt(0));
        spell.pass(5);
        for (int i = 0; i < 5; i++) {
            CHECK.due("byteAt(" + i + ")", 'b' + i, spell.byteAt(i));
        }
        CHECK.dueThrow("byteAt(5)", spell, NO_INDEX, () -> spell.byteAt(5));
        CHECK.dueThrow("byteAt(-1)", spell, NO_INDEX, () -> spell.byteAt(-1));
        CHECK.dueThrow("byteAt(600)", spell, NO_INDEX, () -> spell.byteAt(600));
    }

    private static void clear() {
        ShadowSpell spell = Texts.taught("alphabet l ab; when 1 = 1 write length of l;");
        CHECK.due("clear(), empty", 0, spell.clear());
        spell.pass(3);
        CHECK.due("clear()", 3, spell.clear());
        CHECK.due("count(5)", 0, spell.count(5));
        CHECK.due("wrote(0)", 3, spell.wrote(0));
        CHECK.due("count(0)", 3, spell.count(0));
        CHECK.dueThrow("byteAt(0)", spell, NO_INDEX, () -> spell.byteAt(0));
        spell.pass(1);
        CHECK.due("byteAt(0) anew", 'a', spell.byteAt(0));
    }

    private static void found(ShadowSpell spell, String bytes, int want) {
        spell.trim(0);
        Texts.put(spell, bytes);
        CHECK.due("find() of " + bytes, want, spell.find());
        CHECK.due("the tape stays", bytes.length(), spell.count(4));
    }

    private static void find() {
        // abcabcabca and so on
        ShadowSpell spell = Texts.taught("alphabet l cab; when 1 = 1 write day of l; when day = 7 write 0 of l;");
        found(spell, "a", -1);
        found(spell, "", -1);
        spell.pass(10);
        CHECK.due("the paper", true, Texts.paper(spell).equals("abcabcacbca"));
        found(spell, "", -1);
        found(spell, "a", 0);
        found(spell, "c", 2);
        found(spell, "cac", 5);
        found(spell, "bca", 1);
        found(spell, "cbca", 7);
        found(spell, "cbcab", -1);
        found(spell, "abcabcacbca", 0);
        found(spell, "abcabcacbcaa", -1);
        found(spell, "A", -1);
        found(spell, "x", -1);
        found(spell, "a\u00e1", -1);
        found(spell, "\0", -1);
        found(spell, "a\0", -1);
        found(spell, "a\1", -1);
        found(spell, Texts.times(1000, "ab"), -1);
    }

    private static void translate() {
        ShadowSpell spell = Texts.taught("alphabet l abcd; alphabet m bax; alphabet n zyxwv; when 1 = 1 write day of l;");
        spell.pass(8);
        CHECK.due("the paper", true, Texts.paper(spell).equals("bcdabcda"));
        Texts.put(spell, "12");
        CHECK.due("translate(0, 1)", 6, spell.translate(0, 1));
        CHECK.due("the paper, a and b changed, d stays", true, Texts.paper(spell).equals("axdbaxdb"));
        CHECK.due("translate(0, 0)", 0, spell.translate(0, 0));
        CHECK.due("translate(1, 2), x stays x and is not counted", 4, spell.translate(1, 2));
        CHECK.due("the paper", true, Texts.paper(spell).equals("yxdzyxdz"));
        CHECK.due("translate(2, 1)", 4, spell.translate(2, 1));
        CHECK.due("the paper", true, Texts.paper(spell).equals("axdbaxdb"));
        CHECK.due("the tape stays", 2, spell.count(4));
        CHECK.due("wrote stays", 8, spell.wrote(0));
        CHECK.dueThrow("translate(3, 0)", spell, NO_INDEX, () -> spell.translate(3, 0));
        CHECK.dueThrow("translate(0, 3)", spell, NO_INDEX, () -> spell.translate(0, 3));
        CHECK.dueThrow("translate(-1, 0)", spell, NO_INDEX, () -> spell.translate(-1, 0));
        CHECK.dueThrow("translate(0, -1)", spell, NO_INDEX, () -> spell.translate(0, -1));
        spell.clear();
        CHECK.due("translate(0, 1), empty", 0, spell.translate(0, 1));
    }
}
