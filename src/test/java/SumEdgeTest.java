/** "Terms" and the tests and sums of rules: what wraps around, what is divided by 0, and what binds more. */
public final class SumEdgeTest {
    private static final Check CHECK = new Check();
    private static final int LEAST = Integer.MIN_VALUE;
    private static final int MOST = Integer.MAX_VALUE;
    private static final int[] EDGES = {LEAST, LEAST + 1, -46341, -65536, -2, -1, 0, 1, 2, 46340, 65536, MOST - 1, MOST};
    private static final String LETTERS = "abcdefghijkl";

    public static void main(String[] args) {
        sumsWrapAround();
        differencesWrapAround();
        productsWrapAround();
        minusWrapsAround();
        quotients();
        remainders();
        allPairs();
        leastAndGreatest();
        comparisons();
        bindingOfSigns();
        bindingOfTests();
        lettersBySums();
        CHECK.end();
    }

    /** Written so that no part of it is beyond 6 digits, nor wraps around by itself. */
    private static String told(int number) {
        int high = number >> 16;
        return "(" + (high < 0 ? "-" + -high : "" + high) + " * 65536 + " + (number & 65535) + ")";
    }

    private static boolean holds(String test) {
        return Texts.taught("alphabet l x; when " + test + " write 0 of l;").pass(1) == 1;
    }

    private static void value(String sum, int want) {
        CHECK.due(sum + " = " + want, true, holds(sum + " = " + told(want)));
        CHECK.due(sum + " < " + want, false, holds(sum + " < " + told(want)));
        CHECK.due(sum + " > " + want, false, holds(sum + " > " + told(want)));
        CHECK.due(sum + " = " + want + " and 1", false, holds(sum + " = " + told(want + 1)));
        CHECK.due("the letter of " + sum, letter(7, want), written(7, sum));
    }

    private static char letter(int letters, int sum) {
        return LETTERS.charAt(Math.floorMod(sum, letters));
    }

    private static int written(int letters, String sum) {
        ShadowSpell spell = Texts.taught("alphabet l " + LETTERS.substring(0, letters) + "; when 1 = 1 write " + sum + " of l;");
        spell.pass(1);
        return spell.byteAt(0);
    }

    /** "sums .. wrap around in 32 bits" */
    private static void sumsWrapAround() {
        value(told(MOST - 1) + " + 1", MOST);
        value(told(MOST) + " + 1", LEAST);
        value(told(MOST) + " + " + told(MOST), -2);
        value(told(LEAST + 1) + " + -1", LEAST);
        value(told(LEAST) + " + -1", MOST);
        value(told(LEAST) + " + " + told(LEAST), 0);
        value(told(MOST) + " + 1 + -1", MOST);
    }

    /** "differences .. wrap around in 32 bits" */
    private static void differencesWrapAround() {
        value(told(LEAST + 1) + " - 1", LEAST);
        value(told(LEAST) + " - 1", MOST);
        value(told(MOST - 1) + " - -1", MOST);
        value(told(MOST) + " - -1", LEAST);
        value("0 - " + told(LEAST), LEAST);
        value("-1 - " + told(LEAST), MOST);
        value(told(LEAST) + " - " + told(MOST), 1);
    }

    /** "products .. wrap around in 32 bits" */
    private static void productsWrapAround() {
        value("46340 * 46340", 2147395600);
        value("46341 * 46341", -2147479015);
        value("65536 * 32767", 65536 * 32767);
        value("65536 * 32768", LEAST);
        value("65536 * 65536", 0);
        value("999999 * 999999", -729379967);
        value(told(LEAST) + " * -1", LEAST);
        value(told(LEAST) + " * 2", 0);
        value(told(MOST) + " * " + told(MOST), 1);
        value("-32768 * 65536", LEAST);
    }

    private static void minusWrapsAround() {
        value("-" + told(LEAST), LEAST);
        value("-" + told(LEAST + 1), MOST);
        value("-" + told(MOST), LEAST + 1);
        value("- -" + told(LEAST), LEAST);
        value("-0", 0);
        // It turns the value, not the product: -2147483648 / 2 is not the quotient turned.
        value("-" + told(LEAST) + " / 2", -1073741824);
        value("-" + told(LEAST) + " % 10", -8);
    }

    /** "/ is cut towards 0 .. 0 with 0 on the right side, and -2147483648 / -1 gives -2147483648" */
    private static void quotients() {
        for (int left : new int[] {LEAST, -7, -1, 0, 1, 7, MOST}) {
            value(told(left) + " / 0", 0);
            value(told(left) + " / (day - 1)", 0);
            value(told(left) + " / 1", left);
        }
        value(told(LEAST) + " / -1", LEAST);
        value(told(LEAST + 1) + " / -1", MOST);
        value(told(MOST) + " / -1", LEAST + 1);
        value("7 / 2", 3);
        value("-7 / 2", -3);
        value("7 / -2", -3);
        value("-7 / -2", 3);
        value("1 / 2", 0);
        value("-1 / 2", 0);
        value("1 / 999999", 0);
        value("6 / 2", 3);
        value("-6 / 2", -3);
    }

    /** "% is the remainder (with the sign of the left side) .. 0 with 0 on the right side" */
    private static void remainders() {
        for (int left : new int[] {LEAST, -7, -1, 0, 1, 7, MOST}) {
            value(told(left) + " % 0", 0);
            value(told(left) + " % (day - 1)", 0);
            value(told(left) + " % 1", 0);
            value(told(left) + " % -1", 0);
        }
        value("7 % 3", 1);
        value("-7 % 3", -1);
        value("7 % -3", 1);
        value("-7 % -3", -1);
        value("-6 % 3", 0);
        value("2 % 3", 2);
        value("-2 % 3", -2);
        value(told(LEAST) + " % 10", -8);
        value(told(MOST) + " % -10", 7);
    }

    private static void allPairs() {
        for (int left : EDGES) {
            for (int right : EDGES) {
                sign(left, "+", right, (long) left + right);
                sign(left, "-", right, (long) left - right);
                sign(left, "*", right, (long) left * right);
                sign(left, "/", right, right == 0 ? 0 : (long) left / right);
                sign(left, "%", right, right == 0 ? 0 : (long) left % right);
            }
        }
    }

    /** What it is as a long is cut to its lowest 32 bits. */
    private static void sign(int left, String sign, int right, long want) {
        String test = told(left) + " " + sign + " " + told(right) + " = " + told((int) want);
        CHECK.due(test, true, holds(test));
    }

    private static void leastAndGreatest() {
        for (int left : EDGES) {
            for (int right : EDGES) {
                String of = "(" + told(left) + "," + told(right) + ") = ";
                CHECK.due("min" + of, true, holds("min" + of + told(left < right ? left : right)));
                CHECK.due("max" + of, true, holds("max" + of + told(left > right ? left : right)));
            }
        }
    }

    /** Less, equal and greater, those beyond half of all numbers apart too. */
    private static void comparisons() {
        for (int left : EDGES) {
            for (int right : EDGES) {
                comparison(left, "<", right, left < right);
                comparison(left, ">", right, left > right);
                comparison(left, "=", right, left == right);
                comparison(left, "<=", right, left <= right);
                comparison(left, ">=", right, left >= right);
            }
        }
    }

    private static void comparison(int left, String sign, int right, boolean want) {
        String test = told(left) + " " + sign + " " + told(right);
        CHECK.due(test, want, holds(test));
        CHECK.due("not " + test, !want, holds("not " + test));
    }

    /** Products ahead of sums, from left to right, a - in front ahead of all. */
    private static void bindingOfSigns() {
        value("2 + 3 * 4", 14);
        value("2 * 3 + 4", 10);
        value("(2 + 3) * 4", 20);
        value("2 * (3 + 4)", 14);
        value("20 - 3 - 4", 13);
        value("20 - (3 - 4)", 21);
        value("20 - 3 + 4", 21);
        value("100 / 5 / 2", 10);
        value("100 / (5 / 2)", 50);
        value("100 / 7 * 7", 98);
        value("7 * 100 / 7", 100);
        value("17 % 10 % 4", 3);
        value("17 % (10 % 4)", 1);
        value("3 * 7 % 4", 1);
        value("3 * (7 % 4)", 9);
        value("10 - 6 / 2", 7);
        value("10 - 7 % 4", 7);
        value("-7 / 2 * 2", -6);
        value("-2 * 3 + 1", -5);
        value("-(2 * 3 + 1)", -7);
        value("4 * -2 - -1", -7);
        value("-min(3, 4) + max(3, 4) * 2", 5);
        value("-day + length", -1);
    }

    private static String told(boolean truth) {
        return truth ? "1 = 1" : "1 = 2";
    }

    private static void test(String form, boolean a, boolean b, boolean c, boolean want) {
        String test = form.replace("A", told(a)).replace("B", told(b)).replace("C", told(c));
        CHECK.due(test, want, holds(test));
    }

    /** "and binds more than or, not more than and" */
    private static void bindingOfTests() {
        for (int i = 0; i < 8; i++) {
            boolean a = (i & 1) != 0;
            boolean b = (i & 2) != 0;
            boolean c = (i & 4) != 0;
            test("A or B and C", a, b, c, a || (b && c));
            test("A and B or C", a, b, c, (a && b) || c);
            test("A and B and C", a, b, c, a && b && c);
            test("A or B or C", a, b, c, a || b || c);
            test("[A or B] and C", a, b, c, (a || b) && c);
            test("A and [B or C]", a, b, c, a && (b || c));
            test("not A and B or C", a, b, c, (!a && b) || c);
            test("not A or B and C", a, b, c, !a || (b && c));
            test("A and not B or C", a, b, c, (a && !b) || c);
            test("A or not B and C", a, b, c, a || (!b && c));
            test("A and B or not C", a, b, c, (a && b) || !c);
            test("not [A and B] or C", a, b, c, !(a && b) || c);
            test("not [A or B] and C", a, b, c, !(a || b) && c);
            test("not [A or B and C]", a, b, c, !(a || (b && c)));
            test("not not A and B", a, b, c, a && b);
            test("not not not A or B", a, b, c, !a || b);
            test("A and B or B and C or A and C", a, b, c, (a && b) || (b && c) || (a && c));
            test("[A or B] and [B or C] and [A or C]", a, b, c, (a || b) && (b || c) && (a || c));
        }
    }

    /** "brought by the number of its letters into 0 to this less 1 (-1 is the last one)" */
    private static void lettersBySums() {
        for (int letters = 1; letters <= 12; letters++) {
            int[] sums = {LEAST, -2 * letters - 1, -2 * letters, -letters - 1, -letters, 1 - letters, -2, -1, 0, 1,
                letters - 1, letters, letters + 1, 2 * letters - 1, 2 * letters, 999999, MOST};
            for (int sum : sums) {
                CHECK.due(letters + " letters, the sum " + sum, letter(letters, sum), written(letters, told(sum)));
            }
            CHECK.due(letters + " letters, the sum -1", LETTERS.charAt(letters - 1), written(letters, "-1"));
        }
    }
}
