import java.util.ArrayList;
import java.util.List;

/** Promise 4, the grammar and error 1: behind each beginning of a text, every token that may follow, and every other. */
public final class GrammarTest {
    private static final Check CHECK = new Check();
    private static final String NAME = "x9";
    private static final String NUMBER = "5";
    private static final String END = "";
    private static final String KEYWORDS = "planet rail speed from retro every alphabet when write of transit opposite"
        + " at lap gap day length not and or min max";
    private static final String SYMBOLS = "( ) [ ] ; , + - * / % < > = <= >=";

    private static final String SENTENCES = "planet alphabet when END";
    private static final String VALUES = "NUMBER day length at lap gap - ( min max";
    private static final String SINGLES = VALUES + " not [ transit opposite retro";
    private static final String SIGNS = "+ - * / %";
    private static final String COMPARISONS = "< > = <= >=";

    public static void main(String[] args) {
        planets("planet a rail 1 speed 1");
        alphabets();
        tests();
        values("when", COMPARISONS);
        values("when 1 <=", "and or write");
        values("when 1 = 1 write", "of");
        rules();
        keywordsAreNoNames();
        CHECK.end();
    }

    /** Behind the beginning just the tokens named may follow: any other one, and the end, is the error's token. */
    private static void follow(String beginning, String allowed) {
        List<String> may = new ArrayList<>();
        for (String one : allowed.split(" ")) {
            may.add(one.equals("NAME") ? NAME : one.equals("NUMBER") ? NUMBER : one.equals("END") ? END : one);
        }
        for (String token : (KEYWORDS + " " + SYMBOLS + " " + NAME + " " + NUMBER).split(" ")) {
            String text = beginning + " " + token + " ?";
            int place = may.contains(token) ? text.length() - 1 : beginning.length() + 1;
            Texts.dueError(CHECK, text, 1, place);
        }
        ShadowSpell spell = new ShadowSpell();
        boolean isWhole = Texts.teach(spell, beginning) != 1;
        CHECK.due("the end behind " + beginning + " is fine", may.contains(END), isWhole);
        if (!isWhole) {
            CHECK.due("errorAt() of " + beginning, beginning.length(), spell.errorAt());
        }
    }

    private static void planets(String planet) {
        follow("", SENTENCES);
        follow("planet", "NAME");
        follow("planet a", "rail");
        follow("planet a rail", "NUMBER");
        follow("planet a rail 1", "speed");
        follow("planet a rail 1 speed", "NUMBER");
        follow(planet, "from retro ;");
        follow(planet + " from", "NUMBER");
        follow(planet + " from 1", "retro ;");
        for (String before : new String[] {planet, planet + " from 1"}) {
            follow(before + " retro", "NUMBER");
            follow(before + " retro 1", "every");
            follow(before + " retro 1 every", "NUMBER");
            follow(before + " retro 1 every 2", ";");
            follow(before + " retro 1 every 2 ;", SENTENCES);
            follow(before + " ;", SENTENCES);
        }
    }

    private static void alphabets() {
        follow("alphabet", "NAME");
        follow("alphabet l", "NAME");
        follow("alphabet l x", ";");
        follow("alphabet l x ;", SENTENCES);
    }

    private static void tests() {
        for (String before : new String[] {"when", "when 1 = 1 and", "when 1 = 1 or", "when not", "when not not"}) {
            follow(before, SINGLES);
            follow(before + " retro", "NAME");
            follow(before + " retro a", "and or write");
            for (String of : new String[] {" transit", " opposite"}) {
                follow(before + of, "NAME");
                follow(before + of + " a", "NAME");
                follow(before + of + " a b", "and or write");
            }
            follow(before + " [", SINGLES);
            follow(before + " [ 1", SIGNS + " " + COMPARISONS);
            follow(before + " [ 1 = 1", SIGNS + " and or ]");
            follow(before + " [ retro a", "and or ]");
            follow(before + " [ retro a or", SINGLES);
            follow(before + " [ [ retro a ]", "and or ]");
            follow(before + " [ retro a ]", "and or write");
            for (String comparison : COMPARISONS.split(" ")) {
                follow(before + " 1 " + comparison, VALUES);
                follow(before + " 1 " + comparison + " 1", SIGNS + " and or write");
            }
        }
    }

    /** Sums behind the beginning, and what may follow besides the signs when they are whole. */
    private static void values(String before, String behind) {
        String more = SIGNS + " " + behind;
        follow(before, before.equals("when") ? SINGLES : VALUES);
        for (String whole : new String[] {"1", "day", "length", "at a", "lap a", "gap a b", "- 1", "( 1 )", "- - day",
            "min ( 1 , 2 )", "max ( 1 , 2 )", "1 + 2", "1 - 2", "1 * 2", "1 / 2", "1 % 2", "1 + 2 * at a"}) {
            follow(before + " " + whole, more);
        }
        for (String sign : SIGNS.split(" ")) {
            follow(before + " 1 " + sign, VALUES);
            follow(before + " ( 1 " + sign, VALUES);
        }
        follow(before + " at", "NAME");
        follow(before + " lap", "NAME");
        follow(before + " gap", "NAME");
        follow(before + " gap a", "NAME");
        follow(before + " -", VALUES);
        follow(before + " (", VALUES);
        follow(before + " ( 1", SIGNS + " )");
        follow(before + " ( ( 1 )", SIGNS + " )");
        for (String of : new String[] {" min", " max"}) {
            follow(before + of, "(");
            follow(before + of + " (", VALUES);
            follow(before + of + " ( 1", SIGNS + " ,");
            follow(before + of + " ( 1 ,", VALUES);
            follow(before + of + " ( 1 , 2", SIGNS + " )");
        }
    }

    private static void rules() {
        follow("when 1 = 1 write 1 of", "NAME");
        follow("when 1 = 1 write 1 of l", ";");
        follow("when 1 = 1 write 1 of l ;", SENTENCES);
    }

    /** All other words are names: a keyword with a sign more or less is one, a keyword never. */
    private static void keywordsAreNoNames() {
        for (String keyword : KEYWORDS.split(" ")) {
            Texts.dueError(CHECK, "planet " + keyword + " rail 1 speed 1;", 1, 7);
            Texts.dueError(CHECK, "alphabet " + keyword + " x;", 1, 9);
            Texts.dueError(CHECK, "alphabet l " + keyword + ";", 1, 11);
            Texts.dueError(CHECK, "when retro " + keyword + " write 1 of l;", 1, 11);
            Texts.dueError(CHECK, "when at " + keyword + " = 1 write 1 of l;", 1, 8);
            Texts.dueError(CHECK, "when 1 = 1 write 1 of " + keyword + ";", 1, 22);
            for (String name : new String[] {keyword + "x", keyword + "1", "x" + keyword,
                keyword.substring(0, keyword.length() - 1)}) {
                Texts.dueError(CHECK, "alphabet l x; planet " + name + " rail 1 speed 1; when retro " + name + " and at "
                    + name + " = 1 write 1 of l;", 0, -1);
                Texts.dueError(CHECK, "alphabet " + name + " x; when 1 = 1 write 1 of " + name + ";", 0, -1);
            }
        }
    }
}
