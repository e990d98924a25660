/** Puts texts on a tape. */
final class Texts {
    private Texts() {
    }

    /** Appends a text to the tape, which needs room for it in steps of twenty bytes. */
    static void put(ShadowSpell spell, String text) {
        int kept = spell.count(4) + text.length();
        for (int i = 0; i < text.length(); i += 20) {
            spell.feed(four(text, i), four(text, i + 4), four(text, i + 8), four(text, i + 12), four(text, i + 16));
        }
        spell.trim(kept);
    }

    static int teach(ShadowSpell spell, String text) {
        spell.trim(0);
        put(spell, text);
        return spell.teach();
    }

    /** What teach() and errorAt() answer to a text, and that the tape is empty behind it. */
    static void dueError(Check check, String text, int error, int place) {
        ShadowSpell spell = new ShadowSpell();
        check.due("teach() of " + text, error, teach(spell, text));
        check.due("errorAt() of " + text, place, spell.errorAt());
        check.due("count(4) behind teach() of " + text, 0, spell.count(4));
    }

    static ShadowSpell taught(String text) {
        ShadowSpell spell = new ShadowSpell();
        if (teach(spell, text) != 0) {
            throw new IllegalStateException("an error at " + spell.errorAt() + " of " + text);
        }
        return spell;
    }

    /** Eight planets, six alphabets of twelve letters and twelve rules, which write twelve letters on each day. */
    static String most() {
        StringBuilder text = new StringBuilder();
        for (int i = 0; i < 8; i++) {
            text.append("planet p").append(i).append(" rail ").append(i + 13).append(" speed ").append(60 - i)
                .append(" from ").append(45 * i).append(" retro ").append(i).append(" every ").append(i + 1).append(';');
        }
        for (int i = 0; i < 6; i++) {
            text.append("alphabet l").append(i).append(' ').append("abcdefghijklmnopqrstuvwxyz", i, i + 12).append(';');
        }
        for (int i = 0; i < 12; i++) {
            text.append("when 1 = 1 write day + ").append(i).append(" of l").append(i % 6).append(';');
        }
        return text.toString();
    }

    static String paper(ShadowSpell spell) {
        StringBuilder out = new StringBuilder();
        int bytes = spell.count(5);
        for (int i = 0; i < bytes; i++) {
            out.append((char) spell.byteAt(i));
        }
        return out.toString();
    }

    static String times(int n, String part) {
        return part.repeat(n);
    }

    private static int four(String text, int from) {
        int number = 0;
        for (int i = from; i < from + 4; i++) {
            number = number << 8 | (i < text.length() ? text.charAt(i) & 255 : 0);
        }
        return number;
    }
}
