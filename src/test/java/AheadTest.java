/** Promises 18 to 24: looking ahead, the mean and the checksum. */
public final class AheadTest {
    private static final Check CHECK = new Check();
    private static final Class<?> NO_INDEX = IndexOutOfBoundsException.class;
    private static final Class<?> NO_ARGUMENT = IllegalArgumentException.class;

    public static void main(String[] args) {
        foresee();
        foreseeIsAsPass();
        next();
        nextIsAsPass();
        spells();
        spellsInTime();
        spellsIsAsPass();
        again();
        againAll();
        againOnLaterDays();
        advise();
        adviseLeast();
        mean();
        digest();
        CHECK.end();
    }

    private static void foresee() {
        ShadowSpell spell = Texts.taught("planet a rail 1 speed 60; planet b rail 1 speed 60 from 5 retro 1 every 2;"
            + "planet c rail 1 speed 1 from 179; alphabet l xy; when day > 3 write day of l;");
        long before = spell.digest();
        int[] letters = {0, 0, 0, 1, 2, 3, 4};
        // a from 0: 60 120 180 240 300 0 60; b from 5: 65 5 65 5 65 5 65; c from 179: 180 to 186.
        // a passes b on the day 2, by -5 and 115, and c on the day 4, by -2 and 57; on the day 4 it is 115 and -125 with b.
        int[] pairs = {0, 1, 0, 1, 0, 0, 0};
        int[] laps = {0, 0, 0, 0, 0, 1, 1};
        for (int days = 1; days <= 7; days++) {
            CHECK.due("foresee(" + days + ", 0)", letters[days - 1], spell.foresee(days, 0));
            CHECK.due("foresee(" + days + ", 1)", pairs[days - 1], spell.foresee(days, 1));
            CHECK.due("foresee(" + days + ", 2)", laps[days - 1], spell.foresee(days, 2));
        }
        CHECK.due("foresee(300, 0)", 297, spell.foresee(300, 0));
        CHECK.due("nothing is changed", before, spell.digest());
        CHECK.dueThrow("foresee(0, 0)", spell, NO_ARGUMENT, () -> spell.foresee(0, 0));
        CHECK.dueThrow("foresee(301, 0)", spell, NO_ARGUMENT, () -> spell.foresee(301, 0));
        CHECK.dueThrow("foresee(-1, 0)", spell, NO_ARGUMENT, () -> spell.foresee(-1, 0));
        CHECK.dueThrow("foresee(1, 3)", spell, NO_INDEX, () -> spell.foresee(1, 3));
        CHECK.dueThrow("foresee(300, -1)", spell, NO_INDEX, () -> spell.foresee(300, -1));
        CHECK.dueThrow("foresee(0, 3)", spell, NO_ARGUMENT, () -> spell.foresee(0, 3));
        CHECK.dueThrow("foresee(301, -1)", spell, NO_ARGUMENT, () -> spell.foresee(301, -1));
    }

    private static final String BUSY = "planet a rail 3 speed 7 retro 2 every 5; planet b rail 1 speed 11 from 40;"
        + "planet c rail 2 speed 60 from 200 retro 1 every 2; planet d rail 9 speed 1 from 359;"
        + "alphabet v aeiou; alphabet k bcdfghjklm; when transit b a or transit c b write at a + at b of k;"
        + "when opposite c d and not retro a write -(lap c) - 1 of v; when length % 7 = day % 9 write day of k;";

    private static void foreseeIsAsPass() {
        for (int days = 1; days <= 300; days += 13) {
            ShadowSpell spell = Texts.taught(BUSY);
            spell.pass(17);
            int letters = spell.foresee(days, 0);
            int pairs = spell.foresee(days, 1);
            int laps = spell.foresee(days, 2);
            CHECK.due("letters foreseen for " + days, spell.pass(days), letters);
            CHECK.due("pairs foreseen for " + days, spell.count(7), pairs);
            int sum = 0;
            for (int planet = 0; planet < 4; planet++) {
                sum += spell.planet(planet, 3);
            }
            CHECK.due("laps foreseen for " + days, sum, laps);
        }
    }

    private static void next() {
        ShadowSpell spell = Texts.taught("planet a rail 9 speed 2 from 1; planet b rail 1 speed 1;"
            + "planet c rail 1 speed 1 from 10; planet d rail 1 speed 1 from 190; planet e rail 1 speed 1 from 359;");
        CHECK.due("next(0, 1, false)", 359, spell.next(0, 1, false));
        CHECK.due("next(1, 0, false)", 359, spell.next(1, 0, false));
        CHECK.due("next(0, 1, true)", 179, spell.next(0, 1, true));
        CHECK.due("next(0, 4, false)", 358, spell.next(0, 4, false));
        CHECK.due("next(1, 2, false)", -1, spell.next(1, 2, false));
        CHECK.due("next(2, 3, true), as now", 1, spell.next(2, 3, true));
        CHECK.due("next(2, 3, false)", -1, spell.next(2, 3, false));
        CHECK.due("next(0, 0, false)", 1, spell.next(0, 0, false));
        CHECK.due("next(0, 0, true)", -1, spell.next(0, 0, true));
        long before = spell.digest();
        spell.next(0, 2, true);
        CHECK.due("nothing is changed", before, spell.digest());
        CHECK.dueThrow("next(0, 5)", spell, NO_INDEX, () -> spell.next(0, 5, false));
        CHECK.dueThrow("next(5, 0)", spell, NO_INDEX, () -> spell.next(5, 0, true));
        CHECK.dueThrow("next(-1, 0)", spell, NO_INDEX, () -> spell.next(-1, 0, true));
        CHECK.dueThrow("next(0, -1)", spell, NO_INDEX, () -> spell.next(0, -1, true));
        limit();
    }

    private static void limit() {
        for (int from = 0; from < 360; from += 45) {
            String text = "planet a rail 1 speed 1 retro 29 every 60;"
                + "planet b rail 1 speed 1 from " + from + " retro 29 every 58;";
            CHECK.due("next from " + from, firstMet(text, 0, 0, 1, false), Texts.taught(text).next(0, 1, false));
        }
        for (int day = 19; day <= 21; day++) {
            // Each 60 days the first one falls back by 2, so that it is where the other one is on the day 17 * 60.
            ShadowSpell spell = Texts.taught("planet a rail 1 speed 1 from 34 retro 1 every 60; planet b rail 1 speed 1;");
            spell.pass(day);
            CHECK.due("next on the day " + day, day < 20 ? -1 : 1020 - day, spell.next(0, 1, false));
        }
    }

    /** Behind how many days both are met, up to 1000; each object tells 200 of them, within its 512 calls. */
    private static int firstMet(String text, int now, int a, int b, boolean isOpposite) {
        for (int start = 0; start < 1000; start += 200) {
            ShadowSpell spell = Texts.taught(text);
            for (int day = 0; day < now + start; day += 100) {
                spell.pass(Math.min(100, now + start - day));
            }
            for (int days = start + 1; days <= start + 200; days++) {
                spell.pass(1);
                if (spell.meets(a, b, isOpposite)) {
                    return days;
                }
            }
        }
        return -1;
    }

    private static void nextIsAsPass() {
        ShadowSpell spell = Texts.taught(BUSY);
        for (int day = 0; day < 60; day++) {
            int a = day % 4;
            int b = (day + 1) % 4;
            boolean isOpposite = day % 3 == 0;
            CHECK.due("next on the day " + day, firstMet(BUSY, day, a, b, isOpposite), spell.next(a, b, isOpposite));
            spell.pass(1);
        }
    }

    private static int spelled(ShadowSpell spell, String bytes) {
        spell.trim(0);
        Texts.put(spell, bytes);
        long before = spell.digest();
        int days = spell.spells();
        CHECK.due("spells() of " + bytes + " changes nothing", before, spell.digest());
        return days;
    }

    private static void spells() {
        ShadowSpell spell = Texts.taught("alphabet l abcdefghijkl; when 1 = 1 write day of l;"
            + "when day % 5 = 0 write length of l;");
        CHECK.due("spells() of nothing", -1, spelled(spell, ""));
        CHECK.due("spells() of b", 1, spelled(spell, "b"));
        CHECK.due("spells() of bcd", 3, spelled(spell, "bcd"));
        CHECK.due("spells() of a", 12, spelled(spell, "a"));
        // bcdeffg..: the day 5 writes f, and, as there are 5 letters by then, f.
        CHECK.due("spells() of ffg", 6, spelled(spell, "ffg"));
        CHECK.due("spells() of eff", 5, spelled(spell, "eff"));
        CHECK.due("spells() of z", -1, spelled(spell, "z"));
        CHECK.due("spells() of 1000 bytes", -1, spelled(spell, Texts.times(500, "bc")));
        spell.pass(3);
        CHECK.due("spells() of bcd, there", 0, spelled(spell, "bcd"));
        CHECK.due("spells() of cd, there", 0, spelled(spell, "cd"));
        CHECK.due("spells() of cde, a part there", 1, spelled(spell, "cde"));
        CHECK.due("spells() of nothing", -1, spelled(spell, ""));
        spell.clear();
        CHECK.due("spells() of bcd, cleared", 12, spelled(spell, "bcd"));
    }

    private static void spellsInTime() {
        for (int day = 399; day <= 401; day++) {
            ShadowSpell spell = Texts.taught("alphabet l ab; when day = " + day + " write 0 of l;");
            CHECK.due("spells() on the day " + day, day <= 400 ? day : -1, spelled(spell, "a"));
        }
        ShadowSpell full = Texts.taught("alphabet l a; alphabet m b; when day < 598 write 0 of l; when day > 500 write 0 of m;"
            + "when day > 548 write 0 of m;");
        full.pass(300);
        full.pass(200);
        CHECK.due("bytes", 500, full.count(5));
        CHECK.due("spells() of abab", 2, spelled(full, "abab"));
        CHECK.due("spells() of abb, then nearly full", 49, spelled(full, "abb"));
        ShadowSpell late = Texts.taught("alphabet l a; alphabet m b; when 1 = 1 write 0 of l; when day = 599 write 0 of m;");
        late.pass(300);
        CHECK.due("spells() of the last two bytes", 299, spelled(late, "ab"));
        CHECK.due("spells() of one byte too many", -1, spelled(late, "ba"));
        CHECK.due("spells() of all", 299, spelled(late, Texts.times(599, "a") + "b"));
        CHECK.due("spells() of more than all", -1, spelled(late, Texts.times(600, "a") + "b"));
    }

    /** Pieces of what will be written: spells() tells the day on which find() finds them first. */
    private static void spellsIsAsPass() {
        ShadowSpell late = Texts.taught(BUSY);
        late.pass(7);
        late.pass(180);
        String paper = Texts.paper(late);
        CHECK.due("bytes", true, paper.length() > 30);
        for (int from = 0; from + 7 < paper.length(); from += 5) {
            String bytes = paper.substring(from, from + 1 + from % 7);
            ShadowSpell spell = Texts.taught(BUSY);
            spell.pass(7);
            Texts.put(spell, bytes);
            int said = spell.spells();
            int days = 0;
            while (spell.find() < 0 && days < 200) {
                spell.pass(1);
                days++;
            }
            CHECK.due("spells() of " + bytes, days, said);
        }
    }

    private static void again() {
        ShadowSpell spell = Texts.taught("planet a rail 1 speed 60; planet b rail 1 speed 40 from 7;");
        CHECK.due("again(1)", -1, spell.again(1));
        CHECK.due("again(17)", -1, spell.again(17));
        CHECK.due("again(18)", 18, spell.again(18));
        CHECK.due("again(2000)", 18, spell.again(2000));
        spell.pass(5);
        long before = spell.digest();
        CHECK.due("again(2000), later", 18, spell.again(2000));
        CHECK.due("nothing is changed", before, spell.digest());
        CHECK.dueThrow("again(0)", spell, NO_ARGUMENT, () -> spell.again(0));
        CHECK.dueThrow("again(-1)", spell, NO_ARGUMENT, () -> spell.again(-1));
        CHECK.dueThrow("again(2001)", spell, NO_ARGUMENT, () -> spell.again(2001));
        ShadowSpell empty = new ShadowSpell();
        CHECK.due("again(2000) of none", -1, empty.again(2000));
        CHECK.dueThrow("again(0) of none", empty, NO_ARGUMENT, () -> empty.again(0));
        CHECK.dueThrow("again(2001) of none", empty, NO_ARGUMENT, () -> empty.again(2001));
    }

    private static void againAll() {
        ShadowSpell shaking = Texts.taught("planet a rail 1 speed 7 retro 1 every 2;");
        CHECK.due("again(2), back and on", 2, shaking.again(2));
        ShadowSpell slow = Texts.taught("planet a rail 1 speed 1; planet b rail 1 speed 60; planet c rail 1 speed 9;");
        CHECK.due("again(360)", 360, slow.again(360));
        CHECK.due("again(359)", -1, slow.again(359));
        ShadowSpell many = Texts.taught("planet a rail 3 speed 7 retro 2 every 5; planet b rail 1 speed 11 from 40;"
            + "planet c rail 2 speed 60 from 200 retro 1 every 2; planet d rail 9 speed 1 from 359;");
        CHECK.due("again(1799)", -1, many.again(1799));
        CHECK.due("again(1800)", 1800, many.again(1800));
        many.set(3, 0);
        CHECK.due("again(1800), set", 1800, many.again(1800));
        ShadowSpell laps = Texts.taught("planet a rail 1 speed 60 from 300;");
        CHECK.due("again(6), laps are not asked", 6, laps.again(6));
    }

    /** Which days are retro hangs on the day of now: reckoned here by the document's own words. */
    private static void againOnLaterDays() {
        // Speed, retro, every:
        int[][] facts = {{30, 2, 5}, {45, 1, 4}, {60, 1, 3}};
        ShadowSpell spell = Texts.taught("planet a rail 1 speed 30 retro 2 every 5; planet b rail 1 speed 45 from 7 retro 1 every 4;"
            + "planet c rail 1 speed 60 from 200 retro 1 every 3;");
        for (int now = 0; now <= 60; now++) {
            for (int days : new int[] {50, 2000}) {
                CHECK.due("again(" + days + ") on the day " + now, againBy(facts, now, days), spell.again(days));
            }
            spell.pass(1);
        }
    }

    private static int againBy(int[][] facts, int now, int within) {
        int[] moved = new int[facts.length];
        for (int days = 1; days <= within; days++) {
            boolean isAgain = true;
            for (int i = 0; i < facts.length; i++) {
                moved[i] += (now + days) % facts[i][2] < facts[i][1] ? -facts[i][0] : facts[i][0];
                isAgain &= moved[i] % 360 == 0;
            }
            if (isAgain) {
                return days;
            }
        }
        return -1;
    }

    private static void advise() {
        // One letter a day while a is between 100 and 199: the more, the longer it is there.
        ShadowSpell spell = Texts.taught("planet a rail 1 speed 10 from 5; planet b rail 1 speed 1; alphabet l x;"
            + "when at a >= 100 and at a < 200 write 0 of l;");
        long before = spell.digest();
        CHECK.due("advise(0, 10)", 9, spell.advise(0, 10));
        CHECK.due("advise(0, 1)", 9, spell.advise(0, 1));
        CHECK.due("advise(0, 20)", 0, spell.advise(0, 20));
        CHECK.due("advise(0, 25)", 0, spell.advise(0, 25));
        // 10 days in the one turn, and 1 or 9 of the next one:
        CHECK.due("advise(0, 37)", 9, spell.advise(0, 37));
        CHECK.due("advise(0, 45)", 9, spell.advise(0, 45));
        CHECK.due("advise(0, 60)", 0, spell.advise(0, 60));
        CHECK.due("advise(1, 20)", 0, spell.advise(1, 20));
        CHECK.due("nothing is changed", before, spell.digest());
        spell.set(0, 155);
        CHECK.due("advise(0, 10), further on", 30, spell.advise(0, 10));
        CHECK.dueThrow("advise(2, 1)", spell, NO_INDEX, () -> spell.advise(2, 1));
        CHECK.dueThrow("advise(-1, 1)", spell, NO_INDEX, () -> spell.advise(-1, 1));
        CHECK.dueThrow("advise(0, 0)", spell, NO_ARGUMENT, () -> spell.advise(0, 0));
        CHECK.dueThrow("advise(0, 61)", spell, NO_ARGUMENT, () -> spell.advise(0, 61));
        CHECK.dueThrow("advise(2, 0)", spell, NO_INDEX, () -> spell.advise(2, 0));
        CHECK.dueThrow("advise(-1, 61)", spell, NO_INDEX, () -> spell.advise(-1, 61));
    }

    /** What advise says is what set and foresee would show. */
    private static void adviseLeast() {
        for (int planet = 0; planet < 4; planet++) {
            for (int days = 1; days <= 60; days += 19) {
                ShadowSpell spell = Texts.taught(BUSY);
                spell.pass(7);
                int said = spell.advise(planet, days);
                int own = spell.planet(planet, 2);
                int best = -1;
                int most = -1;
                for (int n = 0; n < 36; n++) {
                    spell.set(planet, (own + n * 10) % 360);
                    int letters = spell.foresee(days, 0);
                    best = letters > most ? n : best;
                    most = Math.max(letters, most);
                }
                CHECK.due("advise(" + planet + ", " + days + ")", best, said);
            }
        }
    }

    private static void mean() {
        ShadowSpell spell = Texts.taught("alphabet l xy; when day > 2 write 0 of l; when day % 2 = 0 write 0 of l;");
        CHECK.dueDouble("mean() on the day 0", 0, spell.mean());
        spell.pass(1);
        CHECK.dueDouble("mean() on the day 1", 0, spell.mean());
        spell.pass(6);
        CHECK.dueDouble("mean() on the day 7", 8 / 7.0, spell.mean());
        spell.clear();
        CHECK.dueDouble("mean(), cleared", 8 / 7.0, spell.mean());
        Texts.teach(spell, "alphabet l xy; when day = 9 write 0 of l;");
        CHECK.dueDouble("mean(), taught anew", 0, spell.mean());
        spell.pass(3);
        CHECK.dueDouble("mean() on the day 10", 0.1, spell.mean());
    }

    private static void digest() {
        ShadowSpell spell = Texts.taught("planet a rail 3 speed 10 from 355 retro 1 every 4; planet b rail 2 speed 5;"
            + "alphabet l xyz; alphabet m k; when 1 = 1 write day of l; when day = 2 write 0 of m;");
        spell.pass(2);
        Texts.put(spell, "tape!");
        // Counts, planets, alphabets, rules, paper:
        long[] all = {2, 2, 2, 2, 5, 3, 0, 0, 3, 10, 15, 1, 1, 4, 0, 2, 5, 10, 0, 0, 1, 0,
            3, 'x', 'y', 'z', 1, 'k', 2, 1, 'y', 'z', 'k'};
        long d = 727;
        for (long x : all) {
            d = d * 31 + x;
        }
        CHECK.due("digest()", d, spell.digest());
        CHECK.due("digest() again", d, spell.digest());
    }
}
