/** Compares answers with those that are due, prints those that differ, and ends with 1 if there was one. */
final class Check {
    interface Call {
        long answer();
    }

    private int compared;
    private int wrong;

    void due(String call, long want, long got) {
        compared++;
        if (want != got) {
            tell(call + " answered " + got + ", due is " + want);
        }
    }

    void due(String call, boolean want, boolean got) {
        due(call, want ? 1 : 0, got ? 1 : 0);
    }

    void dueDouble(String call, double want, double got) {
        compared++;
        if (want != got) {
            tell(call + " answered " + got + ", due is " + want);
        }
    }

    void dueText(String call, String want, String got) {
        compared++;
        if (!want.equals(got)) {
            tell(call + " answered " + got + ", due is " + want);
        }
    }

    /** A call has to throw exactly this, and must not change what digest() tells. */
    void dueThrow(String call, ShadowSpell spell, Class<?> want, Call made) {
        long before = spell.digest();
        compared++;
        try {
            tell(call + " answered " + made.answer() + ", due is " + want.getSimpleName());
        } catch (RuntimeException e) {
            if (e.getClass() != want) {
                tell(call + " threw " + e.getClass().getSimpleName() + ", due is " + want.getSimpleName());
            }
        }
        due("digest() behind " + call, before, spell.digest());
    }

    void tell(String fault) {
        wrong++;
        System.out.println(fault);
    }

    void end() {
        System.out.println(wrong == 0 ? compared + " answers are as due" : wrong + " answers are not as due");
        if (wrong != 0) {
            System.exit(1);
        }
    }
}
