/** Promises 1 to 24, what is answered at their edges: the least and the most, nothing and all, the last day and the next one. */
public final class CallEdgeTest {
    private static final Check CHECK = new Check();

    public static void main(String[] args) {
        newObject();
        feedToTheEnd();
        feedEachByte();
        trimToAll();
        setEdges();
        mostOfAll();
        passDays();
        passInParts();
        longLife();
        foreseeDays();
        foreseeLaps();
        findEdges();
        findOnFullPaper();
        translateEdges();
        translateFullPaper();
        nextDays();
        spellsDays();
        spellsOnFullPaper();
        againDays();
        adviseEachShift();
        adviseTheLeast();
        adviseDays();
        adviseOnFullPaper();
        mean();
        digestOfMost();
        CHECK.end();
    }

    /** "a sky without planets, on the day 0, with an empty paper" */
    private static void newObject() {
        ShadowSpell spell = new ShadowSpell();
        for (int what = 0; what <= 7; what++) {
            CHECK.due("count(" + what + ")", 0, spell.count(what));
        }
        CHECK.due("errorAt()", -1, spell.errorAt());
        CHECK.due("trim(0)", 0, spell.trim(0));
        CHECK.due("clear()", 0, spell.clear());
        CHECK.due("find()", -1, spell.find());
        CHECK.due("spells()", -1, spell.spells());
        CHECK.due("again(1)", -1, spell.again(1));
        CHECK.due("again(2000)", -1, spell.again(2000));
        for (int what = 0; what <= 2; what++) {
            CHECK.due("foresee(1, " + what + ")", 0, spell.foresee(1, what));
            CHECK.due("foresee(300, " + what + ")", 0, spell.foresee(300, what));
        }
        CHECK.dueDouble("mean()", 0, spell.mean());
        CHECK.due("teach()", 0, spell.teach());
        CHECK.due("pass(1)", 0, spell.pass(1));
        CHECK.due("count(0)", 1, spell.count(0));
        CHECK.dueDouble("mean() without rules", 0, spell.mean());
    }

    /** "if there would be more than 2000": 1980 bytes and twenty are not more. */
    private static void feedToTheEnd() {
        for (int bytes = 1960; bytes <= 2000; bytes++) {
            ShadowSpell spell = new ShadowSpell();
            for (int i = 0; i < 100; i++) {
                spell.feed(0, 0, 0, 0, 0);
            }
            spell.trim(bytes);
            if (bytes <= 1980) {
                CHECK.due("feed at " + bytes, bytes + 20, spell.feed(0, 0, 0, 0, 0));
            } else {
                CHECK.dueThrow("feed at " + bytes, spell, IllegalStateException.class, () -> spell.feed(0, 0, 0, 0, 0));
            }
            CHECK.due("count(4)", bytes <= 1980 ? bytes + 20 : bytes, spell.count(4));
        }
    }

    /** "the four bytes of each number, the highest one first": the only one that is not blank is told by its place. */
    private static void feedEachByte() {
        for (int place = 0; place < 20; place++) {
            for (int sign : new int[] {0, 1, '?', 127, 128, 255}) {
                int[] numbers = {0x20202020, 0x20202020, 0x20202020, 0x20202020, 0x20202020};
                int shift = 24 - place % 4 * 8;
                numbers[place / 4] = numbers[place / 4] & ~(255 << shift) | sign << shift;
                ShadowSpell spell = new ShadowSpell();
                spell.feed(numbers[0], numbers[1], numbers[2], numbers[3], numbers[4]);
                CHECK.due("teach(), the byte " + sign + " at " + place, 1, spell.teach());
                CHECK.due("errorAt(), the byte " + sign + " at " + place, place, spell.errorAt());
            }
        }
    }

    /** "if n is not 0 to the number of bytes of the tape" */
    private static void trimToAll() {
        for (int bytes : new int[] {0, 1, 19, 20, 21, 1999, 2000}) {
            ShadowSpell spell = new ShadowSpell();
            Texts.put(spell, Texts.times(bytes, " "));
            CHECK.dueThrow("trim(" + (bytes + 1) + ")", spell, IllegalArgumentException.class, () -> spell.trim(bytes + 1));
            CHECK.dueThrow("trim(-1)", spell, IllegalArgumentException.class, () -> spell.trim(-1));
            CHECK.due("trim to all", bytes, spell.trim(bytes));
            CHECK.due("count(4)", bytes, spell.count(4));
            CHECK.due("trim to all but one", Math.max(0, bytes - 1), spell.trim(Math.max(0, bytes - 1)));
            CHECK.due("trim(0)", 0, spell.trim(0));
            CHECK.due("trim(0) again", 0, spell.trim(0));
            CHECK.due("count(4)", 0, spell.count(4));
        }
    }

    private static void setEdges() {
        ShadowSpell spell = Texts.taught("planet a rail 1 speed 60 from 300; planet b rail 1 speed 1 from 10;");
        spell.pass(1);
        int before = 0;
        for (int angle : new int[] {0, 1, 180, 359, 359, 0}) {
            CHECK.due("set(0, " + angle + ")", before, spell.set(0, angle));
            CHECK.due("the angle", angle, spell.planet(0, 2));
            CHECK.due("the lap stays", 1, spell.planet(0, 3));
            CHECK.due("the other one stays", 11, spell.planet(1, 2));
            before = angle;
        }
    }

    /** The last planet, fact, alphabet, letter, rule and place of the paper that there can be. */
    private static void mostOfAll() {
        ShadowSpell spell = Texts.taught(Texts.most());
        CHECK.due("planet(7, 0)", 20, spell.planet(7, 0));
        CHECK.due("planet(7, 6)", 1, spell.planet(7, 6));
        CHECK.due("set(7, 359)", 315, spell.set(7, 359));
        CHECK.due("gap(7, 0)", -1, spell.gap(7, 0));
        CHECK.due("gap(0, 7)", 1, spell.gap(0, 7));
        CHECK.due("meets(7, 7)", true, spell.meets(7, 7, false));
        CHECK.due("letter(5, 11)", 'q', spell.letter(5, 11));
        CHECK.due("letter(0, 11)", 'l', spell.letter(0, 11));
        CHECK.due("pass(49), full", 588, spell.pass(49));
        CHECK.due("wrote(11)", 49, spell.wrote(11));
        CHECK.due("pass(2), full", 12, spell.pass(2));
        CHECK.due("wrote(11)", 50, spell.wrote(11));
        CHECK.due("byteAt(599)", 'f' + (50 + 11) % 12, spell.byteAt(599));
        CHECK.due("translate(5, 5)", 0, spell.translate(5, 5));
        CHECK.due("next(7, 7)", 1, spell.next(7, 7, false));
        CHECK.due("advise(7, 60), nothing is written", 0, spell.advise(7, 60));
        for (int what = 0; what <= 3; what++) {
            CHECK.due("count(" + what + ")", new int[] {51, 8, 6, 12}[what], spell.count(what));
        }
    }

    /** "days .. 1 to 300": just so many days go by. */
    private static void passDays() {
        for (int days : new int[] {1, 2, 299, 300}) {
            ShadowSpell spell = Texts.taught("alphabet l abc; when day = " + days + " write 1 of l; when day = " + (days + 1)
                + " write 2 of l; when day = 1 write 0 of l;");
            spell.feed(0, 0, 0, 0, 0);
            CHECK.due("foresee(" + days + ", 0)", 2, spell.foresee(days, 0));
            CHECK.due("pass(" + days + ")", 2, spell.pass(days));
            CHECK.due("count(0)", days, spell.count(0));
            CHECK.due("wrote(0)", 1, spell.wrote(0));
            CHECK.due("wrote(1)", 0, spell.wrote(1));
            CHECK.due("the tape stays", 20, spell.count(4));
            CHECK.due("pass(1)", 1, spell.pass(1));
        }
    }

    /** Days that go by in one call are as days that go by in many. */
    private static void passInParts() {
        String text = "planet a rail 3 speed 7 retro 2 every 5; planet b rail 1 speed 41 from 40; planet c rail 2 speed 60 from 200;"
            + "alphabet l abcdefghijkl; when transit b a or transit b c write at a + day of l; when opposite c a write lap b of l;"
            + "when retro a write length of l;";
        for (int days : new int[] {2, 7, 60, 299, 300}) {
            ShadowSpell whole = Texts.taught(text);
            ShadowSpell parts = Texts.taught(text);
            int letters = whole.pass(days);
            int sum = 0;
            for (int day = 0; day < days; day++) {
                sum += parts.pass(1);
            }
            CHECK.due("the letters of " + days + " days", sum, letters);
            CHECK.due("digest() behind " + days + " days", parts.digest(), whole.digest());
            CHECK.due("there are letters in " + days + " days", true, days == 2 || letters > 0);
        }
    }

    /** "An object is used for at most 512 calls": so many of the dearest ones answer as the first one does. */
    private static void longLife() {
        ShadowSpell spell = Texts.taught("planet a rail 1 speed 59; planet b rail 1 speed 60 retro 29 every 30; alphabet l xyz;"
            + "when 1 = 1 write day of l;");
        for (int i = 1; i <= 160; i++) {
            CHECK.due("pass(300), the " + i + "th", 300, spell.pass(300));
            CHECK.due("pass(300), the " + i + "th again", 300, spell.pass(300));
            CHECK.due("clear(), the " + i + "th", 600, spell.clear());
        }
        int day = 96000;
        CHECK.due("count(0)", day, spell.count(0));
        CHECK.due("wrote(0)", day, spell.wrote(0));
        CHECK.dueDouble("mean()", 1, spell.mean());
        CHECK.due("planet(0, 2)", 59 * day % 360, spell.planet(0, 2));
        CHECK.due("planet(0, 3)", 59 * day / 360, spell.planet(0, 3));
        // Of 30 days it goes back by 60 on 29 and on by 60 on one: by 1680 less.
        int back = -28 * 60 * (day / 30);
        CHECK.due("planet(1, 2)", Math.floorMod(back, 360), spell.planet(1, 2));
        CHECK.due("planet(1, 3)", Math.floorDiv(back, 360), spell.planet(1, 3));
        CHECK.due("foresee(300, 2)", 59 * (day + 300) / 360 + Math.floorDiv(-28 * 60 * (day / 30 + 10), 360), spell.foresee(300, 2));
        CHECK.due("pass(2)", 2, spell.pass(2));
        CHECK.due("byteAt(1)", "xyz".charAt((day + 2) % 3), spell.byteAt(1));
    }

    /** "days .. 1 to 300", counted from now, not from the day 0. */
    private static void foreseeDays() {
        for (int now : new int[] {0, 1, 30}) {
            for (int days : new int[] {1, 2, 299, 300}) {
                ShadowSpell spell = Texts.taught("planet a rail 1 speed 1; planet b rail 1 speed 1 from 10 retro 1 every 7;"
                    + "alphabet l abc; when day = " + (now + days) + " write 1 of l;");
                for (int i = 0; i < now; i++) {
                    spell.pass(1);
                }
                String told = " on the day " + now;
                CHECK.due("foresee(" + days + ", 0)" + told, 1, spell.foresee(days, 0));
                if (days > 1) {
                    CHECK.due("foresee(" + (days - 1) + ", 0)" + told, 0, spell.foresee(days - 1, 0));
                }
                int pairs = spell.foresee(days, 1);
                int laps = spell.foresee(days, 2);
                CHECK.due("count(0)", now, spell.count(0));
                spell.pass(days);
                CHECK.due("foresee(" + days + ", 1)" + told, spell.count(7), pairs);
                CHECK.due("foresee(" + days + ", 2)" + told, spell.planet(0, 3) + spell.planet(1, 3), laps);
            }
        }
    }

    /** "all laps then, added": also below 0, and those of before too. */
    private static void foreseeLaps() {
        ShadowSpell spell = Texts.taught("planet a rail 1 speed 60 retro 29 every 30; planet b rail 1 speed 60 retro 29 every 30;");
        CHECK.due("foresee(1, 2)", -2, spell.foresee(1, 2));
        CHECK.due("foresee(6, 2)", -2, spell.foresee(6, 2));
        CHECK.due("foresee(7, 2)", -4, spell.foresee(7, 2));
        spell.pass(6);
        CHECK.due("foresee(1, 2), later", -4, spell.foresee(1, 2));
        spell.set(0, 120);
        CHECK.due("foresee(1, 2), set", -3, spell.foresee(1, 2));
    }

    private static void find(ShadowSpell spell, String bytes, int want) {
        spell.trim(0);
        Texts.put(spell, bytes);
        CHECK.due("find() of " + bytes, want, spell.find());
        CHECK.due("count(4), the tape stays", bytes.length(), spell.count(4));
    }

    /** "-1 if they are nowhere, or the tape is empty": the first of several places, the last possible place. */
    private static void findEdges() {
        ShadowSpell spell = Texts.taught("alphabet l ab; when not day = 4 write 0 of l; when day = 4 write 1 of l;");
        find(spell, "", -1);
        find(spell, "a", -1);
        spell.pass(7);
        // aaabaaa
        find(spell, "", -1);
        find(spell, "a", 0);
        find(spell, "b", 3);
        find(spell, "aa", 0);
        find(spell, "ba", 3);
        find(spell, "baaa", 3);
        find(spell, "baaaa", -1);
        find(spell, "aaab", 0);
        find(spell, "aab", 1);
        find(spell, "ab", 2);
        find(spell, "aaabaaa", 0);
        find(spell, "aaabaaaa", -1);
        find(spell, "aaabaaab", -1);
        find(spell, "bb", -1);
        find(spell, "\0", -1);
        find(spell, "a" + (char) 0, -1);
        find(spell, "" + (char) ('a' + 128), -1);
        spell.clear();
        find(spell, "a", -1);
        find(spell, "", -1);
    }

    private static void findOnFullPaper() {
        ShadowSpell spell = Texts.taught("alphabet l ab; when not day = 600 write 0 of l; when day = 600 write 1 of l;");
        spell.pass(300);
        spell.pass(300);
        find(spell, "b", 599);
        find(spell, "ab", 598);
        find(spell, "ba", -1);
        find(spell, Texts.times(599, "a") + "b", 0);
        find(spell, Texts.times(598, "a") + "b", 1);
        find(spell, Texts.times(599, "a"), 0);
        find(spell, Texts.times(600, "a"), -1);
        find(spell, Texts.times(600, "a") + "b", -1);
        find(spell, Texts.times(599, "a") + "ba", -1);
        find(spell, Texts.times(2000, "a"), -1);
        CHECK.due("spells() of 2000 bytes", -1, spell.spells());
    }

    private static void translated(String one, String other, int from, int to, String want) {
        ShadowSpell spell = Texts.taught("alphabet l abcdefghijkl; alphabet m " + one + "; alphabet n " + other
            + "; when day <= 12 write day - 1 of l;");
        spell.pass(20);
        String before = Texts.paper(spell);
        int differ = 0;
        for (int i = 0; i < want.length(); i++) {
            differ += before.charAt(i) == want.charAt(i) ? 0 : 1;
        }
        String told = "translate(" + from + ", " + to + ") by " + one + " and " + other;
        CHECK.due(told, differ, spell.translate(from, to));
        CHECK.due(told + " made " + Texts.paper(spell) + ", due is " + want, true, Texts.paper(spell).equals(want));
        CHECK.due("wrote(0)", 12, spell.wrote(0));
        CHECK.due("count(0)", 20, spell.count(0));
    }

    /** "becomes the letter with the same number of the other one, if this one has it; all others stay" */
    private static void translateEdges() {
        translated("abcdefghijkl", "mnopqrstuvwx", 1, 2, "mnopqrstuvwx");
        translated("abcdefghijkl", "mnopqrstuvwx", 2, 1, "abcdefghijkl");
        translated("abcdefghijkl", "lkjihgfedcba", 1, 2, "lkjihgfedcba");
        translated("abcdefghijkl", "bcdefghijkla", 1, 2, "bcdefghijkla");
        translated("abcdefghijkl", "z", 1, 2, "zbcdefghijkl");
        translated("abcdefghijkl", "zy", 1, 2, "zycdefghijkl");
        translated("l", "z", 1, 2, "abcdefghijkz");
        translated("lk", "z", 1, 2, "abcdefghijkz");
        translated("z", "abc", 1, 2, "abcdefghijkl");
        translated("z", "l", 2, 1, "abcdefghijkz");
        translated("xya", "zwa", 1, 2, "abcdefghijkl");
        translated("xya", "zwq", 1, 2, "qbcdefghijkl");
        translated("abcdefghijkl", "abcdefghijkl", 1, 2, "abcdefghijkl");
        translated("ab", "ba", 0, 0, "abcdefghijkl");
        translated("ab", "ba", 1, 2, "bacdefghijkl");
        translated("ab", "ba", 0, 2, "bacdefghijkl");
    }

    private static void translateFullPaper() {
        ShadowSpell spell = Texts.taught("alphabet l a; alphabet m b; when day < 600 write 0 of l; when day = 600 write 0 of m;");
        CHECK.due("translate(0, 1), empty", 0, spell.translate(0, 1));
        spell.pass(300);
        spell.pass(300);
        CHECK.due("translate(1, 0)", 1, spell.translate(1, 0));
        CHECK.due("byteAt(599)", 'a', spell.byteAt(599));
        CHECK.due("translate(0, 1)", 600, spell.translate(0, 1));
        CHECK.due("byteAt(0)", 'b', spell.byteAt(0));
        CHECK.due("byteAt(599)", 'b', spell.byteAt(599));
        CHECK.due("translate(0, 1) again", 0, spell.translate(0, 1));
        CHECK.due("count(5)", 600, spell.count(5));
    }

    /** "behind how many days .. 1 to 1000; -1 if not by then" */
    private static void nextDays() {
        for (int day = 17; day <= 23; day++) {
            // Each 60 days the first one falls back by 2: it comes to the other one, or opposite it, on the day 1020.
            String text = "planet a rail 1 speed 1 from 34 retro 1 every 60; planet b rail 1 speed 1; planet c rail 1 speed 1 from 180;";
            ShadowSpell spell = Texts.taught(text);
            spell.pass(day);
            int want = day < 20 ? -1 : 1020 - day;
            CHECK.due("next(0, 1, false) on the day " + day, want, spell.next(0, 1, false));
            CHECK.due("next(1, 0, false) on the day " + day, want, spell.next(1, 0, false));
            CHECK.due("next(0, 2, true) on the day " + day, want, spell.next(0, 2, true));
            CHECK.due("next(2, 0, true) on the day " + day, want, spell.next(2, 0, true));
            CHECK.due("next(1, 2, true) on the day " + day, 1, spell.next(1, 2, true));
            CHECK.due("next(1, 2, false) on the day " + day, -1, spell.next(1, 2, false));
            CHECK.due("next(1, 1, false) on the day " + day, 1, spell.next(1, 1, false));
            CHECK.due("next(1, 1, true) on the day " + day, -1, spell.next(1, 1, true));
        }
        ShadowSpell now = Texts.taught("planet a rail 1 speed 1; planet b rail 1 speed 2; planet c rail 1 speed 3;");
        CHECK.due("next(0, 1, false), met now, not behind a day", 360, now.next(0, 1, false));
        CHECK.due("next(0, 2, false), met now, not behind a day", 180, now.next(0, 2, false));
        CHECK.due("next(0, 1, true)", 180, now.next(0, 1, true));
        now.set(0, 2);
        CHECK.due("next(0, 2, false), behind a day", 1, now.next(0, 2, false));
        now.set(0, 1);
        CHECK.due("next(0, 2, false), past it behind a day", 1, now.next(0, 2, false));
        CHECK.due("next(0, 1, false), there behind a day", 1, now.next(0, 1, false));
    }

    private static int spelled(ShadowSpell spell, String bytes) {
        spell.trim(0);
        Texts.put(spell, bytes);
        int days = spell.spells();
        CHECK.due("count(4), the tape stays", bytes.length(), spell.count(4));
        return days;
    }

    /** "0 if they do, at most 400; -1 if not by then, or the tape is empty" */
    private static void spellsDays() {
        for (int now : new int[] {0, 1, 250}) {
            for (int days : new int[] {1, 2, 399, 400, 401, 402}) {
                ShadowSpell spell = Texts.taught("alphabet l ab; when day = " + (now + days) + " write 0 of l;"
                    + "when day = " + (now + days) + " write 1 of l;");
                for (int i = 0; i < now; i += 250) {
                    spell.pass(Math.min(now, 250));
                }
                String told = ", in " + days + " days, on the day " + now;
                CHECK.due("spells() of a" + told, days <= 400 ? days : -1, spelled(spell, "a"));
                CHECK.due("spells() of ab" + told, days <= 400 ? days : -1, spelled(spell, "ab"));
                CHECK.due("spells() of ba" + told, -1, spelled(spell, "ba"));
                CHECK.due("spells() of nothing" + told, -1, spelled(spell, ""));
                CHECK.due("count(0)" + told, now, spell.count(0));
                CHECK.due("count(5)" + told, 0, spell.count(5));
            }
        }
        ShadowSpell there = Texts.taught("alphabet l a; when 1 = 1 write 0 of l;");
        CHECK.due("spells(), tomorrow", 1, spelled(there, "a"));
        there.pass(1);
        CHECK.due("spells(), now", 0, spelled(there, "a"));
        CHECK.due("spells(), now and then", 1, spelled(there, "aa"));
        CHECK.due("spells() of nothing, with a paper", -1, spelled(there, ""));
        CHECK.due("spells() of 401 bytes", 400, spelled(there, Texts.times(401, "a")));
        CHECK.due("spells() of 402 bytes", -1, spelled(there, Texts.times(402, "a")));
    }

    private static void spellsOnFullPaper() {
        ShadowSpell spell = Texts.taught("alphabet l ab; when day < 599 write 0 of l; when day >= 599 write 1 of l;");
        spell.pass(300);
        CHECK.due("spells() of b", 299, spelled(spell, "b"));
        CHECK.due("spells() of bb", 300, spelled(spell, "bb"));
        CHECK.due("spells() of bbb, beyond the paper", -1, spelled(spell, "bbb"));
        CHECK.due("spells() of the whole paper", 300, spelled(spell, Texts.times(598, "a") + "bb"));
        CHECK.due("spells() of one byte more", -1, spelled(spell, Texts.times(599, "a") + "bb"));
        spell.pass(300);
        CHECK.due("spells() of bb, full", 0, spelled(spell, "bb"));
        CHECK.due("spells() of bbb, full", -1, spelled(spell, "bbb"));
        spell.clear();
        CHECK.due("spells() of bbb, cleared", 3, spelled(spell, "bbb"));
    }

    /** "within how many days .. 1 or more; -1 if not by then": 1 to 2000, the last of them too. */
    private static void againDays() {
        ShadowSpell late = Texts.taught("planet a rail 1 speed 1 retro 21 every 31; planet b rail 1 speed 1 retro 13 every 57;");
        CHECK.due("again(2000), on the last day", 2000, late.again(2000));
        CHECK.due("again(1999)", -1, late.again(1999));
        ShadowSpell later = Texts.taught("planet a rail 1 speed 8 retro 5 every 9; planet b rail 1 speed 8 retro 9 every 15;");
        CHECK.due("again(2000), a day too late", -1, later.again(2000));
        for (int i = 0; i < 6; i++) {
            later.pass(300);
        }
        later.pass(201);
        CHECK.due("the day", 2001, later.count(0));
        CHECK.due("the first one is there", 0, later.planet(0, 2));
        CHECK.due("the second one is there", 0, later.planet(1, 2));
        ShadowSpell turn = Texts.taught("planet a rail 1 speed 60 from 359;");
        CHECK.due("again(5)", -1, turn.again(5));
        CHECK.due("again(6)", 6, turn.again(6));
        CHECK.due("again(2000), for the first time", 6, turn.again(2000));
        CHECK.due("again(1)", -1, turn.again(1));
        ShadowSpell shaking = Texts.taught("planet a rail 1 speed 1 retro 1 every 2; planet b rail 1 speed 60 retro 1 every 2;");
        CHECK.due("again(1), there and back", -1, shaking.again(1));
        CHECK.due("again(2), there and back", 2, shaking.again(2));
        ShadowSpell slow = Texts.taught("planet a rail 1 speed 60; planet b rail 1 speed 1;");
        CHECK.due("again(359), all planets", -1, slow.again(359));
        CHECK.due("again(360), all planets", 360, slow.again(360));
        slow.pass(1);
        slow.set(1, 200);
        CHECK.due("again(2000), the angles of now", 360, slow.again(2000));
    }

    /** "n * 10 greater than its own, brought by 360 into 0 to 359 .. n from 0 to 35": each n is the best one once. */
    private static void adviseEachShift() {
        for (int own : new int[] {0, 4, 9, 10, 180, 350, 355, 359}) {
            for (int n = 0; n < 36; n++) {
                int angle = (own + n * 10 + 1) % 360;
                ShadowSpell spell = Texts.taught("planet a rail 1 speed 1 from " + own + "; planet b rail 1 speed 1;"
                    + "alphabet l x; when at a = " + angle + " write 0 of l;");
                CHECK.due("advise(0, 1) from " + own + " to " + angle, n, spell.advise(0, 1));
                CHECK.due("advise(1, 1)", 0, spell.advise(1, 1));
                CHECK.due("the angle stays", own, spell.planet(0, 2));
            }
        }
    }

    /** "Returns n, of several the least" */
    private static void adviseTheLeast() {
        String planet = "planet a rail 1 speed 1; alphabet l x; ";
        CHECK.due("nothing is written", 0, Texts.taught(planet).advise(0, 60));
        CHECK.due("always as much", 0, Texts.taught(planet + "when 1 = 1 write 0 of l;").advise(0, 60));
        CHECK.due("one at 71 and 211", 7, Texts.taught(planet + "when at a = 71 or at a = 211 write 0 of l;").advise(0, 1));
        CHECK.due("one at 71, two at 211", 21, Texts.taught(planet + "when at a = 71 or at a = 211 write 0 of l;"
            + "when at a = 211 write 0 of l;").advise(0, 1));
        CHECK.due("two at 71, one at 211", 7, Texts.taught(planet + "when at a = 71 or at a = 211 write 0 of l;"
            + "when at a = 71 write 0 of l;").advise(0, 1));
        CHECK.due("all but at 1", 1, Texts.taught(planet + "when not at a = 1 write 0 of l;").advise(0, 1));
        CHECK.due("all but at 351", 0, Texts.taught(planet + "when not at a = 351 write 0 of l;").advise(0, 1));
        // As if it were set: it has not come from where it was, and passes the other one only by its own way.
        ShadowSpell spell = Texts.taught("planet a rail 1 speed 1; planet b rail 1 speed 20 from 95; alphabet l x;"
            + "when transit a b write 0 of l;");
        CHECK.due("b goes from 95 to 115, a from 100 to 101 or from 110 to 111", 10, spell.advise(0, 1));
    }

    /** "days .. 1 to 60": just so many days are looked through. */
    private static void adviseDays() {
        for (int now : new int[] {0, 7}) {
            for (int days : new int[] {1, 2, 59, 60}) {
                ShadowSpell spell = Texts.taught("planet a rail 1 speed 1; alphabet l x; when day = " + (now + days)
                    + " and at a = " + (230 + now + days) + " write 0 of l;");
                for (int i = 0; i < now; i++) {
                    spell.pass(1);
                }
                CHECK.due("advise(0, " + days + ") on the day " + now, 23, spell.advise(0, days));
                if (days > 1) {
                    CHECK.due("advise(0, " + (days - 1) + ") on the day " + now, 0, spell.advise(0, days - 1));
                }
                if (days < 60) {
                    CHECK.due("advise(0, " + (days + 1) + ") on the day " + now, 23, spell.advise(0, days + 1));
                }
            }
        }
    }

    /** Only what finds room on the paper counts as written. */
    private static void adviseOnFullPaper() {
        for (int bytes = 598; bytes <= 600; bytes++) {
            ShadowSpell spell = Texts.taught("planet a rail 1 speed 60; alphabet l x; when day <= " + bytes + " write 0 of l;"
                + "when day > 600 and at a > 60 and at a < 110 write 0 of l;"
                + "when day > 600 and at a > 80 and at a < 110 write 0 of l;");
            spell.pass(300);
            spell.pass(300);
            // A letter from 61 to 109, two from 81 on: the least shifts are 1 and 3.
            CHECK.due("advise(0, 1) with " + bytes + " bytes", bytes == 598 ? 3 : bytes == 599 ? 1 : 0, spell.advise(0, 1));
        }
    }

    /** "how often all rules wrote, divided by the day; 0 on the day 0" */
    private static void mean() {
        ShadowSpell spell = Texts.taught("alphabet l x; when 1 = 1 write 0 of l; when day > 1 write 0 of l; when day > 2 write 0 of l;");
        double[] want = {0, 1, 3 / 2.0, 6 / 3.0, 9 / 4.0, 12 / 5.0, 15 / 6.0, 18 / 7.0};
        for (int day = 0; day < want.length; day++) {
            CHECK.dueDouble("mean() on the day " + day, want[day], spell.mean());
            spell.pass(1);
        }
        ShadowSpell none = Texts.taught("alphabet l x; when 1 = 2 write 0 of l;");
        none.pass(3);
        CHECK.dueDouble("mean(), nothing is written", 0, none.mean());
        ShadowSpell third = Texts.taught("alphabet l x; when day = 3 write 0 of l;");
        third.pass(3);
        CHECK.dueDouble("mean(), one in three days", 1.0 / 3, third.mean());
        third.clear();
        CHECK.dueDouble("mean(), the paper is taken away", 1.0 / 3, third.mean());
    }

    private static ShadowSpell fullOfMost() {
        ShadowSpell spell = Texts.taught(Texts.most());
        spell.pass(60);
        spell.set(3, 17);
        Texts.put(spell, "tape");
        return spell;
    }

    /** All that there can be; the calls are shared among some equal objects, each of which is used less than 512 times. */
    private static void digestOfMost() {
        ShadowSpell facts = fullOfMost();
        long d = 727;
        for (int what = 0; what <= 7; what++) {
            d = d * 31 + facts.count(what);
        }
        for (int planet = 0; planet < 8; planet++) {
            for (int what = 0; what <= 6; what++) {
                d = d * 31 + facts.planet(planet, what);
            }
        }
        for (int alphabet = 0; alphabet < 6; alphabet++) {
            d = d * 31 + 12;
            for (int index = 0; index < 12; index++) {
                d = d * 31 + facts.letter(alphabet, index);
            }
        }
        for (int rule = 0; rule < 12; rule++) {
            d = d * 31 + facts.wrote(rule);
        }
        ShadowSpell[] papers = {fullOfMost(), fullOfMost()};
        for (int index = 0; index < 600; index++) {
            d = d * 31 + papers[index / 300].byteAt(index);
        }
        CHECK.due("digest()", d, facts.digest());
        CHECK.due("digest() again", d, facts.digest());
        CHECK.due("digest() of an equal object", d, fullOfMost().digest());
    }
}
