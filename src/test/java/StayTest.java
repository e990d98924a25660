import java.util.LinkedHashMap;
import java.util.Map;

/**
 * What a call does not say that it changes, stays: all that can be told of an object behind a call is compared with what
 * is told of an equal one without that call, part by part. "The day and the paper stay", "all stays (but the tape is
 * empty)", "its lap stays", "the tape (which stays)", "nothing is changed".
 */
public final class StayTest {
    private static final Check CHECK = new Check();
    private static final String TEXT = "planet a rail 2 speed 60 from 250 retro 2 every 5; planet b rail 1 speed 19;"
        + "planet c rail 3 speed 1 from 100; planet d rail 4 speed 30 from 320 retro 1 every 3;"
        + "alphabet l abcdefghijkl; alphabet m mnop; alphabet n xyz;"
        + "when day % 2 = 0 write day of l; when 1 = 1 write day / 2 of m; when day % 3 = 1 write -day of n;";
    /** Each of its bytes matters: with another one it is wrong, or tells other things. */
    private static final String TAPE = "planet e rail 9 speed 8 from 7; alphabet t qrs; when at e > 14 write lap e - 1 of t;";
    private static final int DAYS = 20;

    interface Call {
        Object of(ShadowSpell spell);
    }

    public static void main(String[] args) {
        isWorthAsking();
        isAsTold();
        tape();
        teach();
        sky();
        daysAndPaper();
        asking();
        lookingAhead();
        refused();
        otherObjects();
        CHECK.end();
    }

    private static ShadowSpell make() {
        ShadowSpell spell = Texts.taught(TEXT);
        spell.pass(DAYS);
        CHECK.due("teach() of an error", 7, Texts.teach(spell, "alphabet l aa;"));
        Texts.put(spell, TAPE);
        return spell;
    }

    /** The parts of an object, each under a name of its own; the object is used up behind it. */
    private static Map<String, Object> parts(ShadowSpell spell) {
        Map<String, Object> parts = new LinkedHashMap<>();
        parts.put("errorAt", spell.errorAt());
        parts.put("day", spell.count(0));
        parts.put("tape's length", spell.count(4));
        parts.put("planets", planets(spell));
        for (int i = 0; i < spell.count(1); i++) {
            parts.put("angle " + i, spell.planet(i, 2));
            parts.put("lap " + i, spell.planet(i, 3));
            for (int k = 0; k < i; k++) {
                // Where one goes past the other, this asks for the angles of a day ago too.
                parts.put("pair " + k + i, spell.meets(k, i, false) + " " + spell.meets(k, i, true) + " " + spell.gap(k, i));
            }
        }
        parts.put("alphabets", alphabets(spell));
        StringBuilder wrote = new StringBuilder();
        for (int i = 0; i < spell.count(3); i++) {
            wrote.append(spell.wrote(i)).append(' ');
        }
        parts.put("wrote", wrote.toString());
        String paper = Texts.paper(spell);
        parts.put("paper's length", paper.length());
        parts.put("paper", paper);
        spell.pass(6);
        parts.put("rules", Texts.paper(spell).substring(paper.length()));
        parts.put("tape", spell.teach() + " " + spell.errorAt() + " " + alphabets(spell) + planets(spell));
        spell.clear();
        parts.put("tape's rules", spell.pass(60) + Texts.paper(spell));
        return parts;
    }

    /** As they are told: not where they are. */
    private static String planets(ShadowSpell spell) {
        StringBuilder out = new StringBuilder();
        for (int i = 0; i < spell.count(1); i++) {
            for (int what : new int[] {0, 1, 4, 5}) {
                out.append(spell.planet(i, what)).append(' ');
            }
        }
        return out.toString();
    }

    private static String alphabets(ShadowSpell spell) {
        StringBuilder out = new StringBuilder();
        for (int i = 0; i < spell.count(2); i++) {
            for (int k = 0; hasLetter(spell, i, k); k++) {
                out.append((char) spell.letter(i, k));
            }
            out.append(' ');
        }
        return out.toString();
    }

    private static boolean hasLetter(ShadowSpell spell, int alphabet, int index) {
        try {
            spell.letter(alphabet, index);
            return true;
        } catch (IndexOutOfBoundsException e) {
            return false;
        }
    }

    /** Behind the call all parts are as they are without it, but for those whose names begin with one of these. */
    private static void changes(String call, Call made, String... changed) {
        ShadowSpell spell = make();
        made.of(spell);
        Map<String, Object> want = parts(make());
        Map<String, Object> got = parts(spell);
        for (String part : want.keySet()) {
            if (!isOneOf(part, changed)) {
                CHECK.due(part + " behind " + call + ", " + got.get(part) + ", stays " + want.get(part), true,
                    want.get(part).equals(got.get(part)));
            } else {
                CHECK.due(part + " is another one behind " + call + ", " + got.get(part), false, want.get(part).equals(got.get(part)));
            }
        }
    }

    private static boolean isOneOf(String part, String[] starts) {
        for (String start : starts) {
            if (part.startsWith(start)) {
                return true;
            }
        }
        return false;
    }

    private static void stays(String call, Call made) {
        changes(call, made);
    }

    /** Each part is such that a change of it would be seen. */
    private static void isWorthAsking() {
        ShadowSpell spell = make();
        CHECK.due("errorAt()", 11, spell.errorAt());
        for (int i : new int[] {0, 1, 3}) {
            CHECK.due("a lap of the planet " + i, true, spell.planet(i, 3) != 0);
            // The same angle, but it did not come there.
            ShadowSpell other = make();
            other.set(i, other.planet(i, 2));
            boolean isSeen = false;
            for (int k = 0; k < 4; k++) {
                isSeen |= spell.meets(i, k, false) != other.meets(i, k, false) || spell.meets(i, k, true) != other.meets(i, k, true);
            }
            CHECK.due("the angle of " + i + " a day ago is asked for", true, isSeen);
        }
        for (int place = 0; place < TAPE.length(); place++) {
            ShadowSpell other = make();
            other.trim(0);
            Texts.put(other, TAPE.substring(0, place) + (char) (TAPE.charAt(place) ^ 1) + TAPE.substring(place + 1));
            Map<String, Object> want = parts(make());
            Map<String, Object> got = parts(other);
            boolean isSeen = !want.get("tape").equals(got.get("tape")) || !want.get("tape's rules").equals(got.get("tape's rules"));
            CHECK.due("another byte of the tape at " + place + " is seen", true, isSeen);
        }
    }

    /** What the rules write on these days. */
    private static String written(int from, int to) {
        StringBuilder out = new StringBuilder();
        for (int day = from; day <= to; day++) {
            out.append(day % 2 == 0 ? "" + "abcdefghijkl".charAt(day % 12) : "").append("mnop".charAt(day / 2 % 4));
            out.append(day % 3 == 1 ? "" + "xyz".charAt(Math.floorMod(-day, 3)) : "");
        }
        return out.toString();
    }

    /** By the text alone, as the calls that ask are the same on both objects that are compared. */
    private static void isAsTold() {
        Map<String, Object> parts = parts(make());
        CHECK.due("errorAt", true, parts.get("errorAt").equals(11));
        CHECK.due("day", true, parts.get("day").equals(DAYS));
        CHECK.due("alphabets", true, parts.get("alphabets").equals("abcdefghijkl mnop xyz "));
        CHECK.due("wrote", true, parts.get("wrote").equals("10 20 7 "));
        CHECK.due("paper", true, parts.get("paper").equals(written(1, DAYS)));
        CHECK.due("rules", true, parts.get("rules").equals(written(DAYS + 1, DAYS + 6)));
        CHECK.due("tape", true, parts.get("tape").equals("0 -1 qrs 9 8 0 1 "));
    }

    private static void tape() {
        changes("feed", spell -> spell.feed(1, 2, 3, 4, 5), "tape");
        changes("trim(10)", spell -> spell.trim(10), "tape");
        changes("trim(0)", spell -> spell.trim(0), "tape");
        stays("trim to all", spell -> spell.trim(TAPE.length()));
        stays("feed and trim", spell -> spell.feed(-1, -1, -1, -1, -1) + spell.trim(TAPE.length()));
    }

    private static void teach() {
        String[] taught = {"errorAt", "tape", "planet", "angle", "lap", "pair", "alphabets", "wrote", "rules"};
        changes("teach()", ShadowSpell::teach, taught);
        changes("teach() of nothing", spell -> spell.trim(0) + spell.teach(), taught);
        for (String wrong : new String[] {"?", "planet", "planet e rail 0 speed 1;", "planet e rail 1 speed 1; alphabet l xyz; when 2 = 2"
            + " write 0 of k;", TEXT + "?"}) {
            changes("teach() of " + wrong, spell -> Texts.teach(spell, wrong), "errorAt", "tape");
        }
    }

    private static void sky() {
        changes("set(0, 5)", spell -> spell.set(0, 5), "angle 0", "pair 01", "pair 02", "pair 03");
        changes("set(3, 5)", spell -> spell.set(3, 5), "angle 3", "pair 03", "pair 13", "pair 23");
        stays("set(2, ..) there and back, as it meets none", spell -> spell.set(2, 0) + spell.set(2, 100 + DAYS));
        for (int planet = 0; planet < 4; planet++) {
            int one = planet;
            for (int what = 0; what <= 6; what++) {
                int fact = what;
                stays("planet(" + planet + ", " + what + ")", spell -> spell.planet(one, fact));
            }
            stays("gap(" + planet + ", 1)", spell -> spell.gap(one, 1));
            stays("meets(" + planet + ", 1, false)", spell -> spell.meets(one, 1, false));
            stays("meets(1, " + planet + ", true)", spell -> spell.meets(1, one, true));
        }
        for (int i = 0; i < 3; i++) {
            int one = i;
            stays("letter(" + i + ", 1)", spell -> spell.letter(one, 1));
            stays("wrote(" + i + ")", spell -> spell.wrote(one));
        }
    }

    private static void daysAndPaper() {
        changes("pass(1)", spell -> spell.pass(1), "day", "angle", "pair", "wrote", "paper", "rules");
        changes("clear()", ShadowSpell::clear, "paper");
        stays("translate(0, 0)", spell -> spell.translate(0, 0));
        stays("find()", ShadowSpell::find);
        stays("byteAt(0)", spell -> spell.byteAt(0));
        stays("byteAt(9)", spell -> spell.byteAt(9));
        ShadowSpell one = make();
        ShadowSpell other = make();
        CHECK.due("translate(0, 1) writes anew", true, other.translate(0, 1) > 0);
        Map<String, Object> want = parts(one);
        Map<String, Object> got = parts(other);
        for (String part : want.keySet()) {
            CHECK.due(part + " behind translate(0, 1)", !part.equals("paper"), want.get(part).equals(got.get(part)));
        }
    }

    private static void asking() {
        stays("errorAt()", ShadowSpell::errorAt);
        for (int what = 0; what <= 7; what++) {
            int one = what;
            stays("count(" + what + ")", spell -> spell.count(one));
        }
        stays("mean()", ShadowSpell::mean);
        stays("digest()", ShadowSpell::digest);
    }

    private static void lookingAhead() {
        for (int what = 0; what <= 2; what++) {
            int one = what;
            stays("foresee(1, " + what + ")", spell -> spell.foresee(1, one));
            stays("foresee(300, " + what + ")", spell -> spell.foresee(300, one));
        }
        stays("next(0, 1, false)", spell -> spell.next(0, 1, false));
        stays("next(0, 0, true), never", spell -> spell.next(0, 0, true));
        stays("next(3, 2, true)", spell -> spell.next(3, 2, true));
        stays("spells(), never", ShadowSpell::spells);
        stays("again(1)", spell -> spell.again(1));
        stays("again(2000)", spell -> spell.again(2000));
        stays("advise(0, 1)", spell -> spell.advise(0, 1));
        stays("advise(3, 60)", spell -> spell.advise(3, 60));
        // What the tape has to be is put there ahead, and the tape of always behind it.
        for (String bytes : new String[] {"", "m", "xp", "zzzz"}) {
            ShadowSpell spell = make();
            spell.trim(0);
            Texts.put(spell, bytes);
            int days = spell.spells();
            CHECK.due("spells() of " + bytes + " again", days, spell.spells());
            CHECK.due("spells() of " + bytes + ", the tape's length", bytes.length(), spell.count(4));
            CHECK.due("find() of " + bytes + " is where it was", spell.find(), spell.find());
            spell.trim(0);
            Texts.put(spell, TAPE);
            CHECK.due("all behind spells() of " + bytes, true, parts(make()).equals(parts(spell)));
        }
    }

    private static void refused(String call, Call made) {
        stays("refused " + call, spell -> {
            try {
                CHECK.tell(call + " answered " + made.of(spell));
            } catch (RuntimeException e) {
                return e;
            }
            return null;
        });
    }

    /** "A method that throws an exception changes nothing." */
    private static void refused() {
        refused("feed", spell -> {
            while (spell.count(4) <= 1980) {
                spell.feed(0, 0, 0, 0, 0);
            }
            try {
                return spell.feed(0, 0, 0, 0, 0);
            } finally {
                spell.trim(TAPE.length());
            }
        });
        refused("trim", spell -> spell.trim(TAPE.length() + 1));
        refused("count", spell -> spell.count(8));
        refused("planet", spell -> spell.planet(0, 7));
        refused("set", spell -> spell.set(0, 360));
        refused("set", spell -> spell.set(4, 0));
        refused("gap", spell -> spell.gap(0, 4));
        refused("meets", spell -> spell.meets(0, 4, false));
        refused("letter", spell -> spell.letter(2, 3));
        refused("wrote", spell -> spell.wrote(3));
        refused("pass", spell -> spell.pass(301));
        refused("byteAt", spell -> spell.byteAt(600));
        refused("translate", spell -> spell.translate(0, 3));
        refused("foresee", spell -> spell.foresee(301, 0));
        refused("foresee", spell -> spell.foresee(1, 3));
        refused("next", spell -> spell.next(0, 4, false));
        refused("again", spell -> spell.again(2001));
        refused("advise", spell -> spell.advise(0, 61));
        refused("advise", spell -> spell.advise(4, 1));
    }

    /** An object knows nothing of what happens to another one. */
    private static void otherObjects() {
        ShadowSpell spell = make();
        ShadowSpell other = Texts.taught(Texts.most());
        other.pass(60);
        other.set(0, 1);
        other.advise(1, 60);
        other.translate(0, 5);
        Texts.teach(other, "planet z rail 1 speed 1; ?");
        Texts.put(other, Texts.times(1000, "zz"));
        CHECK.due("all behind calls on another object", true, parts(make()).equals(parts(spell)));
        CHECK.due("the other one's paper", 600, other.count(5));
        CHECK.due("the other one's planets", 8, other.count(1));
        CHECK.due("the other one's tape", 2000, other.count(4));
    }
}
