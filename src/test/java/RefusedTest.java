import java.util.ArrayList;
import java.util.List;

/**
 * "A method that throws an exception changes nothing. If several exceptions apply, the one that is named first is
 * thrown." Each refused call, and each call that only asks, is made of one of two equal objects; then both are given
 * the same calls, and have to answer the same.
 */
public final class RefusedTest {
    private static final Check CHECK = new Check();
    private static final Class<?> NO_INDEX = IndexOutOfBoundsException.class;
    private static final Class<?> NO_ARGUMENT = IllegalArgumentException.class;
    private static final Class<?> NO_STATE = IllegalStateException.class;
    private static final int LEAST = Integer.MIN_VALUE;
    private static final int MOST = Integer.MAX_VALUE;
    private static final int[] DAYS = {LEAST, -300, -1, 0};

    interface Call {
        Object of(ShadowSpell spell);
    }

    /** A state: how an object gets there, and what it has then. */
    private enum State {
        NEW(0, new int[] {}, 0, 0, 0),
        TAPE(0, new int[] {}, 0, 1981, 0),
        TAUGHT(3, new int[] {3, 1}, 2, 21, 7),
        FORGOTTEN(1, new int[] {2}, 1, 0, 9),
        WRONG(3, new int[] {3, 1}, 2, 0, 7),
        FULL(8, new int[] {12, 12, 12, 12, 12, 12}, 12, 2000, 600);

        private final int planets;
        private final int[] letters;
        private final int rules;
        private final int tape;
        private final int paper;

        State(int planets, int[] letters, int rules, int tape, int paper) {
            this.planets = planets;
            this.letters = letters;
            this.rules = rules;
            this.tape = tape;
            this.paper = paper;
        }

        ShadowSpell make() {
            ShadowSpell spell = new ShadowSpell();
            switch (this) {
                case NEW -> { }
                case TAPE -> Texts.put(spell, Texts.times(1980, " ") + "?");
                case TAUGHT -> {
                    threePlanets(spell);
                    Texts.put(spell, "alphabet tape qrstu; ");
                }
                case FORGOTTEN -> {
                    Texts.teach(spell, Texts.most());
                    threePlanets(spell);
                    Texts.teach(spell, "planet z rail 1 speed 9 from 4 retro 1 every 3; alphabet l xy; when day > 5 write day of l;");
                    Texts.teach(spell, Texts.most() + "?");
                    spell.pass(2);
                }
                case WRONG -> {
                    threePlanets(spell);
                    Texts.teach(spell, "planet z rail 1 speed 9; alphabet l xx;");
                }
                default -> {
                    Texts.teach(spell, Texts.most());
                    spell.pass(55);
                    Texts.put(spell, Texts.times(99, "alphabet l x;     \n\n") + "alphabet m xx;      ");
                }
            }
            return spell;
        }

        /** Seven letters in five days; the first two planets come by each other on the last one, the third one is set. */
        private static void threePlanets(ShadowSpell spell) {
            Texts.teach(spell, "planet a rail 2 speed 10 from 306; planet b rail 1 speed 1; planet c rail 3 speed 20 retro 2 every 5;"
                + "alphabet l xyz; alphabet m q; when 1 = 1 write day of l; when day > 3 write 0 of m;");
            spell.pass(5);
            spell.set(2, 250);
        }
    }

    public static void main(String[] args) {
        for (State state : State.values()) {
            asExpected(state);
            tape(state);
            planets(state);
            pairs(state);
            letters(state);
            daysAndPaper(state);
            ahead(state);
            advise(state);
            asks(state);
        }
        everyRefusalAtOnce();
        CHECK.end();
    }

    private static void asExpected(State state) {
        ShadowSpell spell = state.make();
        int[] want = {state.planets, state.letters.length, state.rules, state.tape, state.paper};
        for (int i = 0; i < want.length; i++) {
            CHECK.due(state + ": count(" + (i + 1) + ")", want[i], spell.count(i + 1));
        }
    }

    /** Answers that tell the whole state, as far as calls can tell it: the tape's bytes and what was a day ago too. */
    private static List<Object> told(ShadowSpell spell) {
        List<Object> told = new ArrayList<>(List.of(spell.errorAt(), spell.digest(), spell.mean(), spell.find(), spell.spells(),
            spell.again(400), spell.foresee(9, 0), spell.foresee(9, 1), spell.foresee(9, 2)));
        int planets = spell.count(1);
        for (int a = 0; a < planets; a++) {
            for (int b = 0; b < planets; b++) {
                told.add(spell.meets(a, b, false));
                told.add(spell.meets(a, b, true));
                told.add(spell.gap(a, b));
            }
            told.add(spell.next(a, 0, false));
            told.add(spell.advise(a, 5));
        }
        told.add(spell.pass(3));
        told.add(spell.digest());
        told.add(spell.teach());
        told.add(spell.errorAt());
        told.add(spell.digest());
        told.add(spell.clear());
        told.add(spell.pass(9));
        told.add(spell.digest());
        return told;
    }

    private static void refused(State state, Class<?> want, String call, Call made) {
        ShadowSpell one = state.make();
        ShadowSpell other = state.make();
        String told = state + ": " + call;
        try {
            CHECK.tell(told + " answered " + made.of(other) + ", due is " + want.getSimpleName());
        } catch (RuntimeException e) {
            CHECK.due(told + " threw " + e.getClass().getSimpleName() + ", due is " + want.getSimpleName(), true,
                e.getClass() == want);
        }
        CHECK.due(told + " changed nothing", true, told(one).equals(told(other)));
    }

    /** Numbers that are none of so many. */
    private static int[] noneOf(int many) {
        return new int[] {LEAST, -many - 1, -1, many, many + 1, many + 256, MOST};
    }

    private static void tape(State state) {
        if (state.tape > 1980) {
            refused(state, NO_STATE, "feed", spell -> spell.feed(0x20202020, 1, 2, 3, -1));
        }
        for (int n : noneOf(state.tape + 1)) {
            refused(state, NO_ARGUMENT, "trim(" + n + ")", spell -> spell.trim(n));
        }
        for (int what : noneOf(8)) {
            refused(state, NO_INDEX, "count(" + what + ")", spell -> spell.count(what));
        }
    }

    private static void planets(State state) {
        for (int planet : noneOf(state.planets)) {
            for (int what : new int[] {LEAST, -1, 0, 6, 7, MOST}) {
                refused(state, NO_INDEX, "planet(" + planet + ", " + what + ")", spell -> spell.planet(planet, what));
            }
            // The exception that set names first is that of the planet.
            for (int angle : new int[] {LEAST, -1, 0, 359, 360, MOST}) {
                refused(state, NO_INDEX, "set(" + planet + ", " + angle + ")", spell -> spell.set(planet, angle));
            }
        }
        for (int planet = 0; planet < state.planets; planet++) {
            int known = planet;
            for (int what : noneOf(7)) {
                refused(state, NO_INDEX, "planet(" + planet + ", " + what + ")", spell -> spell.planet(known, what));
            }
            for (int angle : noneOf(360)) {
                refused(state, NO_ARGUMENT, "set(" + planet + ", " + angle + ")", spell -> spell.set(known, angle));
            }
        }
    }

    private static void pairs(State state) {
        for (int none : noneOf(state.planets)) {
            for (int other : new int[] {0, state.planets - 1, none, -1}) {
                String first = "(" + none + ", " + other + ")";
                String second = "(" + other + ", " + none + ")";
                refused(state, NO_INDEX, "gap" + first, spell -> spell.gap(none, other));
                refused(state, NO_INDEX, "gap" + second, spell -> spell.gap(other, none));
                for (boolean is : new boolean[] {false, true}) {
                    refused(state, NO_INDEX, "meets" + first, spell -> spell.meets(none, other, is));
                    refused(state, NO_INDEX, "meets" + second, spell -> spell.meets(other, none, is));
                    refused(state, NO_INDEX, "next" + first, spell -> spell.next(none, other, is));
                    refused(state, NO_INDEX, "next" + second, spell -> spell.next(other, none, is));
                }
            }
        }
    }

    private static void letters(State state) {
        for (int none : noneOf(state.letters.length)) {
            for (int index : new int[] {-1, 0, 11, MOST}) {
                refused(state, NO_INDEX, "letter(" + none + ", " + index + ")", spell -> spell.letter(none, index));
            }
            for (int other : new int[] {0, state.letters.length - 1, none}) {
                refused(state, NO_INDEX, "translate(" + none + ", " + other + ")", spell -> spell.translate(none, other));
                refused(state, NO_INDEX, "translate(" + other + ", " + none + ")", spell -> spell.translate(other, none));
            }
        }
        for (int alphabet = 0; alphabet < state.letters.length; alphabet++) {
            int known = alphabet;
            for (int index : noneOf(state.letters[alphabet])) {
                refused(state, NO_INDEX, "letter(" + alphabet + ", " + index + ")", spell -> spell.letter(known, index));
            }
        }
        for (int rule : noneOf(state.rules)) {
            refused(state, NO_INDEX, "wrote(" + rule + ")", spell -> spell.wrote(rule));
        }
    }

    private static void daysAndPaper(State state) {
        for (int days : DAYS) {
            refused(state, NO_ARGUMENT, "pass(" + days + ")", spell -> spell.pass(days));
        }
        for (int days : new int[] {301, 302, 1000, MOST}) {
            refused(state, NO_ARGUMENT, "pass(" + days + ")", spell -> spell.pass(days));
        }
        for (int index : noneOf(state.paper)) {
            refused(state, NO_INDEX, "byteAt(" + index + ")", spell -> spell.byteAt(index));
        }
    }

    private static void ahead(State state) {
        for (int days : new int[] {LEAST, -1, 0, 301, MOST}) {
            // The exception that foresee names first is that of the days.
            for (int what : new int[] {LEAST, -1, 0, 1, 2, 3, MOST}) {
                refused(state, NO_ARGUMENT, "foresee(" + days + ", " + what + ")", spell -> spell.foresee(days, what));
            }
        }
        for (int what : noneOf(3)) {
            refused(state, NO_INDEX, "foresee(1, " + what + ")", spell -> spell.foresee(1, what));
            refused(state, NO_INDEX, "foresee(300, " + what + ")", spell -> spell.foresee(300, what));
        }
        for (int days : new int[] {LEAST, -1, 0, 2001, MOST}) {
            refused(state, NO_ARGUMENT, "again(" + days + ")", spell -> spell.again(days));
        }
    }

    private static void advise(State state) {
        for (int none : noneOf(state.planets)) {
            // The exception that advise names first is that of the planet.
            for (int days : new int[] {LEAST, -1, 0, 1, 60, 61, MOST}) {
                refused(state, NO_INDEX, "advise(" + none + ", " + days + ")", spell -> spell.advise(none, days));
            }
        }
        for (int planet = 0; planet < state.planets; planet++) {
            int known = planet;
            for (int days : new int[] {LEAST, -1, 0, 61, 62, 300, MOST}) {
                refused(state, NO_ARGUMENT, "advise(" + planet + ", " + days + ")", spell -> spell.advise(known, days));
            }
        }
    }

    private static void asked(State state, String call, Call made) {
        ShadowSpell one = state.make();
        ShadowSpell other = state.make();
        Object first = made.of(other);
        CHECK.due(state + ": " + call + " answers the same again", true, first.equals(made.of(other)));
        CHECK.due(state + ": " + call + " changed nothing", true, told(one).equals(told(other)));
    }

    /** "(nothing is changed)", "(which stays)": by calls that only ask. */
    private static void asks(State state) {
        asked(state, "errorAt()", ShadowSpell::errorAt);
        asked(state, "find()", ShadowSpell::find);
        asked(state, "spells()", ShadowSpell::spells);
        asked(state, "mean()", ShadowSpell::mean);
        asked(state, "digest()", ShadowSpell::digest);
        asked(state, "trim to all", spell -> spell.trim(state.tape));
        for (int what = 0; what <= 7; what++) {
            int known = what;
            asked(state, "count(" + what + ")", spell -> spell.count(known));
        }
        for (int days : new int[] {1, 40, 300, 1999, 2000}) {
            asked(state, "again(" + days + ")", spell -> spell.again(days));
        }
        for (int what = 0; what <= 2; what++) {
            int known = what;
            asked(state, "foresee(1, " + what + ")", spell -> spell.foresee(1, known));
            asked(state, "foresee(300, " + what + ")", spell -> spell.foresee(300, known));
        }
        for (int planet = 0; planet < state.planets; planet++) {
            int known = planet;
            asked(state, "planet(" + planet + ", 2)", spell -> spell.planet(known, 2));
            asked(state, "gap(0, " + planet + ")", spell -> spell.gap(0, known));
            asked(state, "meets(" + planet + ", 0)", spell -> spell.meets(known, 0, true));
            asked(state, "next(" + planet + ", 0, false)", spell -> spell.next(known, 0, false));
            asked(state, "next(0, " + planet + ", true)", spell -> spell.next(0, known, true));
            asked(state, "advise(" + planet + ", 1)", spell -> spell.advise(known, 1));
            asked(state, "advise(" + planet + ", 60)", spell -> spell.advise(known, 60));
        }
    }

    /** Many refused calls, one behind the other, and many that only ask: still as if there had been none. */
    private static void everyRefusalAtOnce() {
        for (State state : State.values()) {
            ShadowSpell one = state.make();
            ShadowSpell other = state.make();
            Call[] calls = {spell -> spell.trim(-1), spell -> spell.count(8), spell -> spell.planet(8, 0), spell -> spell.set(8, 0),
                spell -> spell.set(0, 360), spell -> spell.gap(0, 8), spell -> spell.meets(8, 0, true), spell -> spell.letter(6, 0),
                spell -> spell.wrote(12), spell -> spell.pass(0), spell -> spell.byteAt(600), spell -> spell.translate(0, 6),
                spell -> spell.foresee(0, 0), spell -> spell.foresee(1, 3), spell -> spell.next(8, 8, false),
                spell -> spell.again(0), spell -> spell.advise(8, 0), spell -> spell.advise(0, 61)};
            int refusals = 0;
            for (Call call : calls) {
                try {
                    call.of(other);
                } catch (RuntimeException e) {
                    refusals++;
                }
                other.spells();
                other.foresee(20, 0);
            }
            CHECK.due(state + ": refused calls", calls.length, refusals);
            CHECK.due(state + ": refused calls changed nothing", true, told(one).equals(told(other)));
        }
    }
}
