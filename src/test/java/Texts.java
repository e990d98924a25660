/** Puts texts on a tape. */
final class Texts {
    private Texts() {
    }

    /** Appends a text to the tape, which needs room for it in steps of twenty bytes. */
    static void put(ShadowSpell spell, String text) {
        int kept = spell.count(4) + text.length();
        for (int i = 0; i < text.length(); i += 20) {
            spell.feed(four(text, i), four(text, i + 4), four(text, i + 8), four(text, i + 12), four(text, i + 16));
        }
        spell.trim(kept);
    }

    static int teach(ShadowSpell spell, String text) {
        spell.trim(0);
        put(spell, text);
        return spell.teach();
    }

    static ShadowSpell taught(String text) {
        ShadowSpell spell = new ShadowSpell();
        if (teach(spell, text) != 0) {
            throw new IllegalStateException("an error at " + spell.errorAt() + " of " + text);
        }
        return spell;
    }

    static String paper(ShadowSpell spell) {
        StringBuilder out = new StringBuilder();
        for (int i = 0; i < spell.count(5); i++) {
            out.append((char) spell.byteAt(i));
        }
        return out.toString();
    }

    static String times(int n, String part) {
        return part.repeat(n);
    }

    private static int four(String text, int from) {
        int number = 0;
        for (int i = from; i < from + 4; i++) {
            number = number << 8 | (i < text.length() ? text.charAt(i) & 255 : 0);
        }
        return number;
    }
}
