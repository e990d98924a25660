/** Promises 1 to 24: many runs of calls, each answer compared with that of the Model. */
public final class ModelTest {
    private static final Check CHECK = new Check();
    /** What later calls answer is free. */
    private static final int MOST_CALLS = 512;
    /** A text of 2000 bytes is fed by 100 calls; some more trim it, teach it and compare. */
    private static final int MOST_AT_ONCE = 110;

    interface Call {
        Object answer();
    }

    public static void main(String[] args) {
        int first = args.length > 0 ? Integer.parseInt(args[0]) : 1;
        int last = args.length > 1 ? Integer.parseInt(args[1]) : 500;
        int[] errors = new int[8];
        for (int seed = first; seed <= last; seed++) {
            run(seed, errors);
        }
        StringBuilder out = new StringBuilder("answers of teach():");
        for (int error : errors) {
            out.append(' ').append(error);
        }
        System.out.println(out);
        CHECK.end();
    }

    private static Object answer(Call call) {
        try {
            return call.answer();
        } catch (RuntimeException e) {
            return e.getClass().getSimpleName();
        }
    }

    private static void compare(String call, Call want, Call got) {
        Object wanted = answer(want);
        Object answered = answer(got);
        CHECK.due(call + " answered " + answered + ", due is " + wanted, true, wanted.equals(answered));
    }

    private static void run(int seed, int[] errors) {
        Dice dice = new Dice(seed);
        ShadowSpell spell = new ShadowSpell();
        Model model = new Model();
        TextMaker maker = new TextMaker(dice);
        int used = dice.isOne(3) ? daysAhead(seed, dice, spell, model) : 0;
        for (int call = 0; used + MOST_AT_ONCE <= MOST_CALLS; call++) {
            String at = "run " + seed + ", call " + call + ": ";
            if (call == 0 || dice.isOne(25)) {
                String text = maker.text();
                used += put(spell, model, text) + 2;
                compare(at + "teach() of " + text, model::teach, spell::teach);
                compare(at + "errorAt() of " + text, model::errorAt, spell::errorAt);
                // Counted by a second object, since the first one has been taught already.
                errors[Texts.teach(new ShadowSpell(), text)]++;
            } else if (dice.isOne(12)) {
                String word = word(dice, model);
                used += put(spell, model, word) + 2;
                compare(at + "find() of " + word, model::find, spell::find);
                compare(at + "spells() of " + word, model::spells, spell::spells);
            } else if (dice.isOne(60)) {
                used += fill(at, dice, spell, model);
            } else {
                step(at, dice, spell, model);
                used++;
            }
            compare(at + "digest()", model::digest, spell::digest);
            used++;
        }
    }

    /** Some runs are late: nothing is told yet, but the day is a great one. Returns how many calls that took. */
    private static int daysAhead(int seed, Dice dice, ShadowSpell spell, Model model) {
        int times = dice.from(1, 5);
        for (int i = 0; i < times; i++) {
            compare("run " + seed + ", ahead: pass(300)", () -> model.pass(300), () -> spell.pass(300));
        }
        return times;
    }

    private static void feed(String at, Dice dice, ShadowSpell spell, Model model) {
        int[] five = new int[5];
        for (int i = 0; i < five.length; i++) {
            five[i] = dice.isOne(2) ? 0x20202020 : dice.from(0, 0xffff) << 16 | dice.from(0, 0xffff);
        }
        compare(at + "feed(" + five[0] + ", ..)", () -> model.feed(five[0], five[1], five[2], five[3], five[4]),
            () -> spell.feed(five[0], five[1], five[2], five[3], five[4]));
    }

    /** Feeds the tape until it is full, and once more. Returns how many calls that took. */
    private static int fill(String at, Dice dice, ShadowSpell spell, Model model) {
        int used = 1;
        for (; model.count(4) <= 1980; used++) {
            feed(at, dice, spell, model);
        }
        feed(at, dice, spell, model);
        return used;
    }

    /** Returns how many calls of the one object that took. */
    private static int put(ShadowSpell spell, Model model, String text) {
        spell.trim(0);
        model.trim(0);
        Texts.put(spell, text);
        for (int i = 0; i < text.length(); i += 20) {
            int[] numbers = new int[5];
            for (int k = 0; k < 20; k++) {
                int sign = i + k < text.length() ? text.charAt(i + k) : 32;
                numbers[k / 4] = numbers[k / 4] << 8 | sign;
            }
            model.feed(numbers[0], numbers[1], numbers[2], numbers[3], numbers[4]);
        }
        model.trim(text.length());
        return (text.length() + 19) / 20 + 3;
    }

    /** A word that may well stand on the paper, soon. */
    private static String word(Dice dice, Model model) {
        StringBuilder out = new StringBuilder();
        int length = dice.from(0, 3);
        if (model.count(5) > 0 && dice.isOne(2)) {
            int place = dice.below(model.count(5));
            for (int i = place; i < model.count(5) && i < place + length; i++) {
                out.append((char) model.byteAt(i));
            }
            return out.toString();
        }
        for (int i = 0; i < length; i++) {
            int alphabet = model.count(2) == 0 ? -1 : dice.below(model.count(2));
            out.append(alphabet < 0 ? (char) dice.from(0, 255) : (char) model.letter(alphabet, 0));
        }
        return out.toString();
    }

    private static void step(String at, Dice dice, ShadowSpell spell, Model model) {
        int planets = model.count(1);
        int a = dice.isOne(10) ? dice.of(-1, planets, 8, Integer.MIN_VALUE, Integer.MAX_VALUE) : dice.below(planets + 1);
        int b = dice.isOne(10) ? dice.of(-1, planets, 8, Integer.MIN_VALUE, Integer.MAX_VALUE) : dice.below(planets + 1);
        int days = dice.isOne(9) ? dice.of(0, -1, 300, 301, 1, 60, 61, Integer.MAX_VALUE) : dice.from(1, 40);
        boolean is = dice.isOne(2);
        String told = "(" + a + ", " + b + ", " + days + ", " + is + ")";
        int what = dice.from(-1, 8);
        int turn = dice.below(22);
        switch (turn) {
            case 0 -> compare(at + "planet" + told + what, () -> model.planet(a, what), () -> spell.planet(a, what));
            case 1 -> compare(at + "gap" + told, () -> model.gap(a, b), () -> spell.gap(a, b));
            case 2 -> compare(at + "meets" + told, () -> model.meets(a, b, is), () -> spell.meets(a, b, is));
            case 3 -> compare(at + "next" + told, () -> model.next(a, b, is), () -> spell.next(a, b, is));
            case 4 -> compare(at + "advise" + told, () -> model.advise(a, days), () -> spell.advise(a, days));
            case 5 -> compare(at + "foresee" + told + what, () -> model.foresee(days, what), () -> spell.foresee(days, what));
            case 6 -> compare(at + "foresee" + told, () -> model.foresee(days, 1), () -> spell.foresee(days, 1));
            case 7 -> {
                int within = dice.isOne(3) ? dice.of(0, 2000, 2001, -1) : dice.from(1, 2000);
                compare(at + "again(" + within + ")", () -> model.again(within), () -> spell.again(within));
            }
            case 8 -> compare(at + "count(" + what + ")", () -> model.count(what), () -> spell.count(what));
            case 9 -> {
                int angle = dice.isOne(9) ? dice.of(-1, 360, 359, 0) : dice.below(360);
                compare(at + "set(" + a + ", " + angle + ")", () -> model.set(a, angle), () -> spell.set(a, angle));
            }
            case 10 -> compare(at + "letter(" + a + ", " + what + ")", () -> model.letter(a, what), () -> spell.letter(a, what));
            case 11 -> compare(at + "wrote(" + what + ")", () -> model.wrote(what), () -> spell.wrote(what));
            case 12 -> compare(at + "translate" + told, () -> model.translate(a, b), () -> spell.translate(a, b));
            case 13 -> {
                int place = dice.from(-1, model.count(5));
                compare(at + "byteAt(" + place + ")", () -> model.byteAt(place), () -> spell.byteAt(place));
            }
            case 14 -> compare(at + "mean()", model::mean, spell::mean);
            case 15 -> {
                if (dice.isOne(4)) {
                    compare(at + "clear()", model::clear, spell::clear);
                }
            }
            case 16 -> {
                int n = dice.from(-1, model.count(4) + 1);
                compare(at + "trim(" + n + ")", () -> model.trim(n), () -> spell.trim(n));
            }
            case 17 -> feed(at, dice, spell, model);
            case 18 -> compare(at + "errorAt()", model::errorAt, spell::errorAt);
            default -> compare(at + "pass(" + days + ")", () -> model.pass(days), () -> spell.pass(days));
        }
    }
}
