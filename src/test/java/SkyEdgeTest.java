/** "2. The sky", sentence by sentence: gaps, meetings, laps, retro days and the full paper at their edges. */
public final class SkyEdgeTest {
    private static final Check CHECK = new Check();

    public static void main(String[] args) {
        gaps();
        meetingsByEveryGap();
        meetingsByOneDegree();
        meetingsFromNextToOpposite();
        yesterdayAtFirst();
        yesterdayWhenSet();
        lapsGoingOn();
        lapsGoingBack();
        lapsByTurns();
        retroDays();
        retroOnTheDayZero();
        fullPaper();
        fullPaperWithinDay();
        fullPaperAndSky();
        lengthWithinDay();
        rulesByNumbers();
        rulesSeeThisDay();
        rails();
        CHECK.end();
    }

    private static int around(int degrees) {
        return Math.floorMod(degrees, 360);
    }

    /** "brought by 360 into -179 to 180": for each difference of two angles, both ways. */
    private static void gaps() {
        for (int b : new int[] {0, 1, 90, 179, 180, 181, 359}) {
            for (int a = 0; a < 360; a++) {
                ShadowSpell spell = Texts.taught("planet a rail 1 speed 1 from " + a + "; planet b rail 1 speed 1 from " + b + ";");
                int want = around(a - b) > 180 ? around(a - b) - 360 : around(a - b);
                CHECK.due("gap of " + a + " and " + b, want, spell.gap(0, 1));
                CHECK.due("gap of " + b + " and " + a, want == 180 ? 180 : -want, spell.gap(1, 0));
                CHECK.due("gap of " + a + " and itself", 0, spell.gap(0, 0));
            }
        }
    }

    private static String planet(String name, int step, int from) {
        return "planet " + name + " rail 1 speed " + Math.abs(step) + " from " + from
            + (step < 0 ? " retro 29 every 30;" : ";");
    }

    /** Whether a way from a gap of -179 to 180 by at most 120 comes to 0, or leads past it. */
    private static boolean isPast(int gap, int grows) {
        int now = gap + grows;
        return now % 360 == 0 || gap < 0 && now > 0 || gap > 0 && now < 0;
    }

    private static int half(int degrees) {
        return around(degrees) > 180 ? around(degrees) - 360 : around(degrees);
    }

    private static void meeting(int gap, int stepA, int stepB) {
        int b = around(gap * 7 + stepA);
        ShadowSpell spell = Texts.taught(planet("a", stepA, around(b + gap)) + planet("b", stepB, b)
            + "alphabet l to; when transit a b write 0 of l; when opposite a b write 1 of l;");
        spell.pass(1);
        boolean transit = isPast(gap, stepA - stepB);
        boolean opposite = isPast(half(gap - 180), stepA - stepB);
        String told = "a gap of " + gap + ", steps of " + stepA + " and " + stepB;
        CHECK.due("meets in transit: " + told, transit, spell.meets(0, 1, false));
        CHECK.due("meets in transit, turned round: " + told, transit, spell.meets(1, 0, false));
        CHECK.due("meets opposite: " + told, opposite, spell.meets(0, 1, true));
        CHECK.due("meets opposite, turned round: " + told, opposite, spell.meets(1, 0, true));
        CHECK.due("count(7): " + told, transit ? 1 : 0, spell.count(7));
        CHECK.due("transit in a test: " + told, transit ? 1 : 0, spell.wrote(0));
        CHECK.due("opposite in a test: " + told, opposite ? 1 : 0, spell.wrote(1));
    }

    /**
     * "their gap is 0, or their gap a day ago and now are one less, the other one greater than 0, and both without
     * signs, added, less than 180": a gap can change by 120 in a day at most, so that they are 120 or less, or 240 or
     * more, when it goes past 0, or past 180.
     */
    private static void meetingsByEveryGap() {
        int[][] steps = {{60, -60}, {-60, 60}, {60, 60}, {60, 1}, {1, 60}, {1, -60}, {2, 1}, {1, 2}, {-1, -1}, {-2, 1},
            {60, -59}, {-59, 60}};
        for (int[] step : steps) {
            for (int gap = -179; gap <= 180; gap++) {
                meeting(gap, step[0], step[1]);
            }
        }
    }

    private static void meets(int a, int b, int stepA, int stepB, boolean transit, boolean opposite) {
        ShadowSpell spell = Texts.taught(planet("a", stepA, a) + planet("b", stepB, b));
        spell.pass(1);
        String told = "from " + a + " by " + stepA + ", from " + b + " by " + stepB;
        CHECK.due("transit " + told, transit, spell.meets(0, 1, false));
        CHECK.due("opposite " + told, opposite, spell.meets(0, 1, true));
        CHECK.due("transit, turned round, " + told, transit, spell.meets(1, 0, false));
        CHECK.due("opposite, turned round, " + told, opposite, spell.meets(1, 0, true));
    }

    /** Told by hand: from -1, 0 and 1 to -1, 0 and 1, and the same at 180. */
    private static void meetingsByOneDegree() {
        meets(100, 101, 3, 1, true, false);
        meets(100, 101, 2, 1, true, false);
        meets(100, 101, 1, 1, false, false);
        meets(100, 101, 1, 2, false, false);
        meets(100, 100, 1, 1, true, false);
        meets(100, 100, 2, 1, false, false);
        meets(100, 100, 1, 2, false, false);
        meets(101, 100, 1, 3, true, false);
        meets(101, 100, 1, 2, true, false);
        meets(101, 100, 1, 1, false, false);
        meets(359, 0, 3, 1, true, false);
        meets(0, 359, 1, 3, true, false);
        meets(0, 359, -1, 1, true, false);
        meets(280, 101, 3, 1, false, true);
        meets(280, 101, 2, 1, false, true);
        meets(280, 101, 1, 1, false, false);
        meets(280, 100, 1, 1, false, true);
        meets(280, 100, 2, 1, false, false);
        meets(280, 100, 1, 2, false, false);
        meets(281, 100, 1, 3, false, true);
        meets(281, 100, 1, 2, false, true);
        meets(281, 100, 1, 1, false, false);
        meets(179, 0, 3, 1, false, true);
        meets(181, 0, 1, 3, false, true);
    }

    /** Signs that change at 180, not at 0, are no transit: both without signs are 240 or more, added. */
    private static void meetingsFromNextToOpposite() {
        meets(120, 0, 60, -60, false, true);
        meets(60, 0, 60, -60, false, true);
        meets(59, 0, 60, -60, false, false);
        meets(61, 0, 60, -60, false, true);
        meets(179, 0, 60, -60, false, true);
        meets(180, 0, 60, -60, false, false);
        meets(240, 0, 60, -60, true, false);
        meets(239, 0, 60, -60, false, false);
        meets(241, 0, 60, -60, true, false);
        meets(359, 0, 60, -60, true, false);
        meets(0, 0, 60, -60, false, false);
        meets(300, 0, -60, 60, false, true);
        meets(120, 0, -60, 60, true, false);
        meets(121, 0, -60, 60, false, false);
        meets(1, 0, -60, 60, true, false);
    }

    /** "Each planet knows the angle that it had a day ago (at first .. the one that it has)." */
    private static void yesterdayAtFirst() {
        String near = "planet a rail 1 speed 60 from 1; planet b rail 1 speed 1;";
        ShadowSpell spell = Texts.taught("planet a rail 1 speed 60 from 330; planet b rail 1 speed 1;");
        CHECK.due("at first, -30", false, spell.meets(0, 1, false));
        spell.pass(1);
        CHECK.due("from -30 to 29", true, spell.meets(0, 1, false));
        CHECK.due("teach() anew", 0, Texts.teach(spell, near));
        CHECK.due("at first, 1", false, spell.meets(0, 1, false));
        CHECK.due("at first, count(7)", 0, spell.count(7));
        spell.pass(1);
        CHECK.due("from 1 to 60", false, spell.meets(0, 1, false));
        // A text with an error leaves what they know.
        ShadowSpell other = Texts.taught("planet a rail 1 speed 60 from 330; planet b rail 1 speed 1;");
        other.pass(1);
        CHECK.due("teach() of an error", 1, Texts.teach(other, near + "?"));
        CHECK.due("from -30 to 29, as before", true, other.meets(0, 1, false));
    }

    /** "and when it is set, the one that it has": but the other planets know theirs as before. */
    private static void yesterdayWhenSet() {
        String text = "planet a rail 1 speed 60 from 330; planet b rail 1 speed 20; planet c rail 1 speed 1 from 200;";
        ShadowSpell spell = Texts.taught(text);
        spell.pass(1);
        CHECK.due("a and b, from -30 to 10", true, spell.meets(0, 1, false));
        spell.set(2, 10);
        CHECK.due("c is set, a and b as before", true, spell.meets(0, 1, false));
        CHECK.due("a and c, -40 a day ago, 20 now", true, spell.meets(0, 2, false));
        CHECK.due("b and c, -10 a day ago, 10 now", true, spell.meets(1, 2, false));
        CHECK.due("count(7), all three", 3, spell.count(7));
        spell.set(0, 30);
        CHECK.due("a is set where it is: 30 a day ago, 10 now", false, spell.meets(0, 1, false));
        CHECK.due("a and c, both set: 20 a day ago and now", false, spell.meets(0, 2, false));
        CHECK.due("b and c, as before", true, spell.meets(1, 2, false));
        spell.set(0, 10);
        CHECK.due("a is set to c", true, spell.meets(0, 2, false));
        spell.set(0, 190);
        CHECK.due("a is set opposite c", true, spell.meets(0, 2, true));
        CHECK.due("a is set opposite c: b was at 170, is at -170", true, spell.meets(0, 1, true));
        spell.pass(1);
        CHECK.due("a and c, from 180 to -121", false, spell.meets(0, 2, true));
    }

    private static void moved(String told, ShadowSpell spell, int angle, int lap) {
        CHECK.due(told + ": the angle", angle, spell.planet(0, 2));
        CHECK.due(told + ": the lap", lap, spell.planet(0, 3));
    }

    /** "Going on from 359 to 0 its lap is 1 greater": for each speed, just short of it, just to it, and past it. */
    private static void lapsGoingOn() {
        for (int speed = 1; speed <= 60; speed++) {
            for (int from : new int[] {0, 359 - speed, 360 - speed, Math.min(359, 361 - speed), 359}) {
                ShadowSpell spell = Texts.taught(planet("a", speed, from));
                spell.pass(1);
                moved("from " + from + " on by " + speed, spell, (from + speed) % 360, from + speed >= 360 ? 1 : 0);
            }
        }
    }

    /** "going back from 0 to 359 1 less": for each speed, just short of it, just to it, and past it. */
    private static void lapsGoingBack() {
        for (int speed = 1; speed <= 60; speed++) {
            for (int from : new int[] {0, 1, speed - 1, speed, speed + 1, 359}) {
                ShadowSpell spell = Texts.taught(planet("a", -speed, from));
                spell.pass(1);
                moved("from " + from + " back by " + speed, spell, around(from - speed), from < speed ? -1 : 0);
            }
        }
    }

    private static void lapsByTurns() {
        ShadowSpell shaking = Texts.taught("planet a rail 1 speed 1 retro 1 every 2;");
        for (int day = 1; day <= 6; day++) {
            shaking.pass(1);
            // On odd days it goes on, on even ones back.
            moved("0 and 1, day " + day, shaking, day % 2, 0);
        }
        ShadowSpell other = Texts.taught("planet a rail 1 speed 1 from 359 retro 1 every 2;");
        for (int day = 1; day <= 6; day++) {
            other.pass(1);
            moved("359 and 0, day " + day, other, day % 2 == 1 ? 0 : 359, day % 2);
        }
        ShadowSpell back = Texts.taught("planet a rail 1 speed 60 from 10 retro 29 every 30;");
        int[] laps = {-1, -1, -1, -1, -1, -1, -2, -2, -2, -2, -2, -2, -3};
        for (int day = 0; day < laps.length; day++) {
            back.pass(1);
            moved("back by 60, day " + (day + 1), back, around(10 - 60 * (day + 1)), laps[day]);
        }
        ShadowSpell far = Texts.taught("planet a rail 1 speed 60;");
        far.pass(300);
        far.pass(300);
        moved("600 days by 60", far, 0, 100);
    }

    /** "A planet is retro on a day, if the day by the remainder of its every is less than its retro." */
    private static void retroDays() {
        int[][] pairs = {{0, 1}, {0, 2}, {0, 60}, {1, 2}, {1, 60}, {2, 3}, {5, 7}, {28, 29}, {29, 30}, {29, 31}, {29, 60}};
        for (int[] pair : pairs) {
            ShadowSpell spell = Texts.taught("planet a rail 1 speed 2 from 200 retro " + pair[0] + " every " + pair[1]
                + "; alphabet l x; when retro a write 0 of l;");
            int angle = 200;
            int retros = 0;
            for (int day = 1; day <= 124; day++) {
                boolean isBack = day % pair[1] < pair[0];
                angle += isBack ? -2 : 2;
                retros += isBack ? 1 : 0;
                spell.pass(1);
                String told = "retro " + pair[0] + " every " + pair[1] + ", day " + day;
                CHECK.due("planet(0, 6), " + told, isBack ? 1 : 0, spell.planet(0, 6));
                CHECK.due("planet(0, 2), " + told, around(angle), spell.planet(0, 2));
            }
            CHECK.due("retro in a test: retro " + pair[0] + " every " + pair[1], retros, spell.wrote(0));
        }
    }

    private static void retroOnTheDayZero() {
        ShadowSpell spell = Texts.taught("planet a rail 1 speed 1 retro 0 every 1; planet b rail 1 speed 1 retro 1 every 2;"
            + "planet c rail 1 speed 1 retro 29 every 60; planet d rail 1 speed 1;");
        int[] want = {0, 1, 1, 0};
        for (int planet = 0; planet < 4; planet++) {
            CHECK.due("planet(" + planet + ", 6) on the day 0", want[planet], spell.planet(planet, 6));
        }
        CHECK.due("count(6) on the day 0", 2, spell.count(6));
        spell.pass(1);
        CHECK.due("count(6) on the day 1", 1, spell.count(6));
        spell.pass(28);
        CHECK.due("count(6) on the day 29", 0, spell.count(6));
        spell.pass(31);
        CHECK.due("count(6) on the day 60", 2, spell.count(6));
    }

    /** "the paper has less than 600 bytes": the 600th byte is written, no 601st. */
    private static void fullPaper() {
        ShadowSpell spell = Texts.taught("alphabet l abcdefg; when 1 = 1 write day of l;");
        CHECK.due("pass(300)", 300, spell.pass(300));
        CHECK.due("pass(299)", 299, spell.pass(299));
        CHECK.due("599 bytes", 599, spell.count(5));
        CHECK.due("pass(1), the 600th", 1, spell.pass(1));
        CHECK.due("600 bytes", 600, spell.count(5));
        CHECK.due("byteAt(599)", 'a' + 600 % 7, spell.byteAt(599));
        CHECK.due("pass(1), full", 0, spell.pass(1));
        CHECK.due("600 bytes", 600, spell.count(5));
        CHECK.due("wrote(0)", 600, spell.wrote(0));
        CHECK.due("byteAt(599), as before", 'a' + 600 % 7, spell.byteAt(599));
        CHECK.due("pass(300), full", 0, spell.pass(300));
        CHECK.due("foresee(300, 0), full", 0, spell.foresee(300, 0));
        CHECK.due("clear()", 600, spell.clear());
        CHECK.due("foresee(300, 0), empty", 300, spell.foresee(300, 0));
        CHECK.due("pass(1), empty", 1, spell.pass(1));
        CHECK.due("byteAt(0)", 'a' + 902 % 7, spell.byteAt(0));
        CHECK.due("wrote(0)", 601, spell.wrote(0));
    }

    /** The paper is asked ahead of each rule, not once a day. */
    private static void fullPaperWithinDay() {
        for (int before = 596; before <= 600; before++) {
            ShadowSpell spell = Texts.taught("alphabet l abcd; when day <= " + before + " write 0 of l; when day = 601 write 1 of l;"
                + "when day = 602 write 1 of l; when day = 601 write 2 of l; when day = 601 write 3 of l;");
            spell.pass(300);
            spell.pass(300);
            CHECK.due("bytes", before, spell.count(5));
            int room = Math.min(3, 600 - before);
            CHECK.due("foresee(1, 0), room for " + room, room, spell.foresee(1, 0));
            CHECK.due("pass(1), room for " + room, room, spell.pass(1));
            CHECK.due("wrote(1), room for " + room, room > 0 ? 1 : 0, spell.wrote(1));
            CHECK.due("wrote(2), room for " + room, 0, spell.wrote(2));
            CHECK.due("wrote(3), room for " + room, room > 1 ? 1 : 0, spell.wrote(3));
            CHECK.due("wrote(4), room for " + room, room > 2 ? 1 : 0, spell.wrote(4));
            for (int i = 0; i < room; i++) {
                CHECK.due("byteAt(" + (before + i) + ")", "bcd".charAt(i), spell.byteAt(before + i));
            }
        }
    }

    /** A full paper holds up neither the day nor the planets. */
    private static void fullPaperAndSky() {
        ShadowSpell spell = Texts.taught("planet a rail 1 speed 7; alphabet l x;"
            + Texts.times(3, "when 1 = 1 write 0 of l;"));
        CHECK.due("pass(250)", 600, spell.pass(250));
        CHECK.due("the day", 250, spell.count(0));
        moved("250 days by 7", spell, 250 * 7 % 360, 250 * 7 / 360);
        CHECK.due("wrote(2)", 200, spell.wrote(2));
        CHECK.dueDouble("mean()", 600 / 250.0, spell.mean());
    }

    /** "length the bytes of the paper now": it grows from rule to rule. */
    private static void lengthWithinDay() {
        ShadowSpell spell = Texts.taught("alphabet l abcdefghijkl; when length = 0 write length of l;"
            + "when length = 1 write length of l; when length = 1 write length of l; when length = 2 write length of l;"
            + "when length >= 3 write length of l;");
        CHECK.due("pass(1)", 4, spell.pass(1));
        String want = "abcde";
        CHECK.due("pass(1)", 1, spell.pass(1));
        for (int i = 0; i < want.length(); i++) {
            CHECK.due("byteAt(" + i + ")", want.charAt(i), spell.byteAt(i));
        }
        CHECK.due("wrote(2)", 0, spell.wrote(2));
        ShadowSpell late = Texts.taught("alphabet l ab; when length < 599 write 0 of l; when length < 599 write 0 of l;"
            + "when length = 599 write 1 of l; when length = 600 write 1 of l;");
        late.pass(300);
        late.pass(1);
        CHECK.due("600 bytes", 600, late.count(5));
        CHECK.due("the last byte", 'b', late.byteAt(599));
        CHECK.due("wrote(2)", 1, late.wrote(2));
        CHECK.due("wrote(3), there is no room", 0, late.wrote(3));
    }

    /** "Rules, by numbers", twelve of them. */
    private static void rulesByNumbers() {
        StringBuilder text = new StringBuilder("alphabet l abcdefghijkl;");
        for (int i = 0; i < 12; i++) {
            text.append("when not day = 3 write ").append(i * 5 % 12).append(" of l;");
        }
        ShadowSpell spell = Texts.taught(text.toString());
        CHECK.due("pass(3)", 24, spell.pass(3));
        for (int i = 0; i < 24; i++) {
            CHECK.due("byteAt(" + i + ")", 'a' + i * 5 % 12, spell.byteAt(i));
        }
        CHECK.due("wrote(11)", 2, spell.wrote(11));
    }

    /** The day is greater and the planets have gone on before a rule asks. */
    private static void rulesSeeThisDay() {
        ShadowSpell spell = Texts.taught("planet a rail 1 speed 1 from 359; planet b rail 2 speed 2 from 358 retro 1 every 2;"
            + "alphabet l abcdefghijkl; when 1 = 1 write day of l; when 1 = 1 write at a of l; when 1 = 1 write lap a of l;"
            + "when not retro b write gap b a of l; when 1 = 1 write 5 + gap a b of l; when retro b write 9 of l;");
        // Day 1: a at 0 in the lap 1, b at 0. Day 2: a at 1, b back at 358.
        CHECK.due("pass(1)", 5, spell.pass(1));
        CHECK.due("pass(1)", 5, spell.pass(1));
        String want = "babafcbbij";
        CHECK.due("the paper is " + Texts.paper(spell) + ", due is " + want, true, Texts.paper(spell).equals(want));
    }

    /** "the rail of the first planet is not greater than that of the second one", asked by transit in a test alone. */
    private static void rails() {
        int[] rails = {1, 2, 10, 19, 20};
        for (int a : rails) {
            for (int b : rails) {
                ShadowSpell spell = Texts.taught("planet a rail " + a + " speed 1; planet b rail " + b + " speed 1;"
                    + "planet c rail " + b + " speed 1 from 180; alphabet l x; when transit a b write 0 of l;"
                    + "when transit b a write 0 of l; when opposite a c write 0 of l; when opposite c a write 0 of l;");
                spell.pass(1);
                String told = "rails " + a + " and " + b;
                CHECK.due("transit a b, " + told, a <= b ? 1 : 0, spell.wrote(0));
                CHECK.due("transit b a, " + told, b <= a ? 1 : 0, spell.wrote(1));
                CHECK.due("opposite a c, " + told, 1, spell.wrote(2));
                CHECK.due("opposite c a, " + told, 1, spell.wrote(3));
                CHECK.due("meets(0, 1), " + told, true, spell.meets(0, 1, false));
                CHECK.due("meets(1, 0), " + told, true, spell.meets(1, 0, false));
                CHECK.due("count(7), " + told, 1, spell.count(7));
                CHECK.due("foresee(1, 1), " + told, 1, spell.foresee(1, 1));
                CHECK.due("next(0, 1), " + told, 1, spell.next(0, 1, false));
                CHECK.due("next(1, 0), " + told, 1, spell.next(1, 0, false));
            }
        }
    }
}
