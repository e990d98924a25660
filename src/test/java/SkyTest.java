/** Promises 7 to 12: the planets, their gaps and meetings, the letters, and how often rules wrote. */
public final class SkyTest {
    private static final Check CHECK = new Check();
    private static final Class<?> NO_INDEX = IndexOutOfBoundsException.class;
    private static final Class<?> NO_ARGUMENT = IllegalArgumentException.class;

    public static void main(String[] args) {
        planet();
        laps();
        retro();
        set();
        gap();
        meets();
        meetsBetweenDays();
        meetsBehindSet();
        letter();
        wrote();
        CHECK.end();
    }

    private static void facts(String when, ShadowSpell spell, int planet, int... want) {
        for (int what = 0; what < want.length; what++) {
            CHECK.due(when + ": planet(" + planet + ", " + what + ")", want[what], spell.planet(planet, what));
        }
    }

    private static void planet() {
        ShadowSpell spell = Texts.taught("planet a rail 3 speed 17; planet b rail 20 speed 60 from 359 retro 2 every 7;");
        facts("at first", spell, 0, 3, 17, 0, 0, 0, 1, 0);
        facts("at first", spell, 1, 20, 60, 359, 0, 2, 7, 1);
        spell.pass(1);
        facts("on day 1", spell, 0, 3, 17, 17, 0, 0, 1, 0);
        facts("on day 1", spell, 1, 20, 60, 299, 0, 2, 7, 1);
        spell.pass(1);
        facts("on day 2", spell, 1, 20, 60, 359, 0, 2, 7, 0);
        spell.pass(1);
        facts("on day 3", spell, 1, 20, 60, 59, 1, 2, 7, 0);
        CHECK.dueThrow("planet(2, 0)", spell, NO_INDEX, () -> spell.planet(2, 0));
        CHECK.dueThrow("planet(-1, 0)", spell, NO_INDEX, () -> spell.planet(-1, 0));
        CHECK.dueThrow("planet(0, 7)", spell, NO_INDEX, () -> spell.planet(0, 7));
        CHECK.dueThrow("planet(0, -1)", spell, NO_INDEX, () -> spell.planet(0, -1));
        CHECK.dueThrow("planet(8, 0)", spell, NO_INDEX, () -> spell.planet(8, 0));
        ShadowSpell empty = new ShadowSpell();
        CHECK.dueThrow("planet(0, 0) of none", empty, NO_INDEX, () -> empty.planet(0, 0));
    }

    private static void laps() {
        ShadowSpell spell = Texts.taught("planet a rail 1 speed 10 from 345; planet b rail 1 speed 10 from 15 retro 3 every 4;");
        int[] a = {355, 5, 15};
        int[] b = {5, 355, 5};
        int[] lapsOfA = {0, 1, 1};
        int[] lapsOfB = {0, -1, 0};
        for (int day = 0; day < 3; day++) {
            spell.pass(1);
            facts("day " + (day + 1), spell, 0, 1, 10, a[day], lapsOfA[day]);
            facts("day " + (day + 1), spell, 1, 1, 10, b[day], lapsOfB[day]);
        }
        ShadowSpell edge = Texts.taught("planet a rail 1 speed 10 from 350; planet b rail 1 speed 10 from 10 retro 2 every 3;");
        edge.pass(1);
        facts("to 0 going on", edge, 0, 1, 10, 0, 1);
        facts("to 0 going back", edge, 1, 1, 10, 0, 0);
        edge.pass(1);
        facts("from 0 going on", edge, 1, 1, 10, 10, 0);
        edge.set(1, 0);
        edge.pass(1);
        facts("from 0 going back", edge, 1, 1, 10, 350, -1);
    }

    private static void retro() {
        ShadowSpell spell = Texts.taught("planet a rail 1 speed 1 from 100 retro 2 every 5;");
        int angle = 100;
        for (int day = 1; day <= 11; day++) {
            boolean isBack = day % 5 < 2;
            angle += isBack ? -1 : 1;
            spell.pass(1);
            CHECK.due("angle on day " + day, angle, spell.planet(0, 2));
            CHECK.due("retro on day " + day, isBack, spell.planet(0, 6) == 1);
            CHECK.due("count(6) on day " + day, isBack ? 1 : 0, spell.count(6));
        }
    }

    private static void set() {
        ShadowSpell spell = Texts.taught("planet a rail 1 speed 60; planet b rail 1 speed 1;");
        spell.pass(13);
        facts("ahead of set", spell, 0, 1, 60, 60, 2);
        CHECK.due("set(0, 359)", 60, spell.set(0, 359));
        CHECK.due("set(0, 0)", 359, spell.set(0, 0));
        CHECK.due("set(0, 300)", 0, spell.set(0, 300));
        facts("behind set", spell, 0, 1, 60, 300, 2);
        facts("behind set", spell, 1, 1, 1, 13, 0);
        spell.pass(1);
        facts("a day later", spell, 0, 1, 60, 0, 3);
        CHECK.dueThrow("set(0, 360)", spell, NO_ARGUMENT, () -> spell.set(0, 360));
        CHECK.dueThrow("set(0, -1)", spell, NO_ARGUMENT, () -> spell.set(0, -1));
        CHECK.dueThrow("set(2, 0)", spell, NO_INDEX, () -> spell.set(2, 0));
        CHECK.dueThrow("set(-1, 0)", spell, NO_INDEX, () -> spell.set(-1, 0));
        CHECK.dueThrow("set(2, 360)", spell, NO_INDEX, () -> spell.set(2, 360));
        CHECK.dueThrow("set(-1, -1)", spell, NO_INDEX, () -> spell.set(-1, -1));
    }

    private static void gap() {
        ShadowSpell spell = Texts.taught("planet a rail 1 speed 1; planet b rail 1 speed 1;");
        int[][] wants = {{0, 0, 0}, {0, 1, -1}, {0, 179, -179}, {0, 180, 180}, {180, 0, 180}, {0, 181, 179},
            {181, 0, -179}, {0, 359, 1}, {359, 0, -1}, {359, 179, 180}, {359, 178, -179}, {10, 350, 20}};
        for (int[] want : wants) {
            spell.set(0, want[0]);
            spell.set(1, want[1]);
            CHECK.due("gap of " + want[0] + " and " + want[1], want[2], spell.gap(0, 1));
            CHECK.due("gap turned round", want[2] == 180 ? 180 : -want[2], spell.gap(1, 0));
        }
        CHECK.due("gap(1, 1)", 0, spell.gap(1, 1));
        CHECK.dueThrow("gap(0, 2)", spell, NO_INDEX, () -> spell.gap(0, 2));
        CHECK.dueThrow("gap(2, 0)", spell, NO_INDEX, () -> spell.gap(2, 0));
        CHECK.dueThrow("gap(-1, 0)", spell, NO_INDEX, () -> spell.gap(-1, 0));
        CHECK.dueThrow("gap(0, -1)", spell, NO_INDEX, () -> spell.gap(0, -1));
    }

    private static void meeting(String when, ShadowSpell spell, boolean transit, boolean opposite) {
        CHECK.due(when + ": transit", transit, spell.meets(0, 1, false));
        CHECK.due(when + ": transit, turned round", transit, spell.meets(1, 0, false));
        CHECK.due(when + ": count(7)", transit ? 1 : 0, spell.count(7));
        CHECK.due(when + ": opposite", opposite, spell.meets(0, 1, true));
        CHECK.due(when + ": opposite, turned round", opposite, spell.meets(1, 0, true));
    }

    private static void meets() {
        ShadowSpell spell = Texts.taught("planet a rail 9 speed 1; planet b rail 1 speed 1;");
        meeting("both at 0", spell, true, false);
        spell.set(1, 180);
        meeting("at 0 and 180", spell, false, true);
        spell.set(1, 179);
        meeting("at 0 and 179", spell, false, false);
        spell.set(0, 359);
        meeting("at 359 and 179", spell, false, true);
        CHECK.due("with itself", true, spell.meets(0, 0, false));
        CHECK.due("opposite itself", false, spell.meets(1, 1, true));
        CHECK.dueThrow("meets(0, 2)", spell, NO_INDEX, () -> spell.meets(0, 2, true) ? 1 : 0);
        CHECK.dueThrow("meets(2, 0)", spell, NO_INDEX, () -> spell.meets(2, 0, false) ? 1 : 0);
        CHECK.dueThrow("meets(-1, 0)", spell, NO_INDEX, () -> spell.meets(-1, 0, false) ? 1 : 0);
        CHECK.dueThrow("meets(0, -1)", spell, NO_INDEX, () -> spell.meets(0, -1, false) ? 1 : 0);
        CHECK.dueThrow("meets(2, 2)", spell, NO_INDEX, () -> spell.meets(2, 2, false) ? 1 : 0);
    }

    /** The first goes on by 60, the other one back by 60, so that the gap grows by 120 in a day. */
    private static void meetsBetweenDays() {
        String text = "planet a rail 1 speed 60; planet b rail 1 speed 60 retro 29 every 30;";
        for (int gap = -179; gap <= 180; gap++) {
            ShadowSpell spell = Texts.taught(text);
            spell.set(0, Math.floorMod(gap, 360));
            spell.pass(1);
            meeting("gap " + gap + ", a day later", spell, gap < 0 && gap >= -120, gap >= 60 && gap < 180);
        }
        ShadowSpell slow = Texts.taught("planet a rail 1 speed 1 from 9; planet b rail 1 speed 2;");
        int[] gaps = {8, 7, 6, 5, 4, 3, 2, 1, 0, -1};
        for (int day = 0; day < gaps.length; day++) {
            slow.pass(1);
            CHECK.due("gap on day " + (day + 1), gaps[day], slow.gap(0, 1));
            meeting("gap " + gaps[day], slow, gaps[day] == 0, false);
        }
    }

    private static void meetsBehindSet() {
        ShadowSpell spell = Texts.taught("planet a rail 1 speed 10 from 355; planet b rail 1 speed 1;");
        spell.pass(1);
        // -5 a day ago, 4 now.
        meeting("came by", spell, true, false);
        spell.set(0, 5);
        // The first one was at 5 a day ago, the other one at 0: 5 and 4.
        meeting("set", spell, false, false);
        spell.set(1, 6);
        meeting("both set", spell, false, false);
        spell.pass(1);
        meeting("came by again", spell, true, false);
        spell.set(1, 200);
        spell.set(0, 10);
        spell.pass(1);
        meeting("-190 is 170, then 179", spell, false, false);
        spell.pass(1);
        meeting("179, then -172", spell, false, true);
        // A set planet stood a day ago where it stands now; the other one went from 201 to 202.
        spell.set(0, 19);
        meeting("-182 is 178 a day ago, 177 now", spell, false, false);
        spell.set(0, 22);
        meeting("-179 a day ago, 180 now", spell, false, true);
    }

    private static void letter() {
        ShadowSpell spell = Texts.taught("alphabet a xyz; alphabet b k; alphabet c zyxwvutsrqpo;");
        String[] letters = {"xyz", "k", "zyxwvutsrqpo"};
        for (int i = 0; i < letters.length; i++) {
            for (int k = 0; k < letters[i].length(); k++) {
                CHECK.due("letter(" + i + ", " + k + ")", letters[i].charAt(k), spell.letter(i, k));
            }
        }
        CHECK.dueThrow("letter(0, 3)", spell, NO_INDEX, () -> spell.letter(0, 3));
        CHECK.dueThrow("letter(1, 1)", spell, NO_INDEX, () -> spell.letter(1, 1));
        CHECK.dueThrow("letter(2, 12)", spell, NO_INDEX, () -> spell.letter(2, 12));
        CHECK.dueThrow("letter(0, -1)", spell, NO_INDEX, () -> spell.letter(0, -1));
        CHECK.dueThrow("letter(3, 0)", spell, NO_INDEX, () -> spell.letter(3, 0));
        CHECK.dueThrow("letter(-1, 0)", spell, NO_INDEX, () -> spell.letter(-1, 0));
    }

    private static void wrote() {
        ShadowSpell spell = Texts.taught("alphabet a xyz; when day % 2 = 0 write 1 of a; when 1 = 2 write 1 of a;"
            + "when length < 5 write 2 of a;");
        spell.pass(9);
        // Letters: 1 on the day 1, 2 on the day 2, 1 on the day 3, then one more each second day.
        CHECK.due("wrote(0)", 4, spell.wrote(0));
        CHECK.due("wrote(1)", 0, spell.wrote(1));
        CHECK.due("wrote(2)", 3, spell.wrote(2));
        spell.clear();
        spell.foresee(20, 0);
        CHECK.due("wrote(0), cleared", 4, spell.wrote(0));
        CHECK.dueThrow("wrote(3)", spell, NO_INDEX, () -> spell.wrote(3));
        CHECK.dueThrow("wrote(-1)", spell, NO_INDEX, () -> spell.wrote(-1));
        CHECK.dueThrow("wrote(12)", spell, NO_INDEX, () -> spell.wrote(12));
    }
}
