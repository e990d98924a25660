import java.util.ArrayList;
import java.util.HashSet;
import java.util.List;
import java.util.Set;

/** The document's promises told anew, as plainly and slowly as can be, to compare ShadowSpell's answers with. */
final class Model {
    private static final class Planet {
        String name;
        int rail;
        int speed;
        int angle;
        int before;
        int lap;
        int retro;
        int every = 1;

        Planet copy() {
            Planet other = new Planet();
            other.name = name;
            other.rail = rail;
            other.speed = speed;
            other.angle = angle;
            other.before = before;
            other.lap = lap;
            other.retro = retro;
            other.every = every;
            return other;
        }
    }

    private String tape = "";
    private String paper = "";
    private int day;
    private int errorAt = -1;
    private List<Planet> planets = new ArrayList<>();
    private List<String> alphabets = new ArrayList<>();
    private List<String> alphabetNames = new ArrayList<>();
    private List<Grammar.Node> rules = new ArrayList<>();
    private List<Integer> wrote = new ArrayList<>();

    private Model copy() {
        Model other = new Model();
        other.paper = paper;
        other.day = day;
        planets.forEach(planet -> other.planets.add(planet.copy()));
        other.alphabets = alphabets;
        other.alphabetNames = alphabetNames;
        other.rules = rules;
        other.wrote = new ArrayList<>(wrote);
        return other;
    }

    private static void index(boolean isThere) {
        if (!isThere) {
            throw new IndexOutOfBoundsException();
        }
    }

    private static void argument(boolean isFine) {
        if (!isFine) {
            throw new IllegalArgumentException();
        }
    }

    private static boolean isOf(int i, int size) {
        return 0 <= i && i < size;
    }

    int feed(int a, int b, int c, int d, int e) {
        if (tape.length() > 1980) {
            throw new IllegalStateException();
        }
        for (int number : new int[] {a, b, c, d, e}) {
            for (int shift = 24; shift >= 0; shift -= 8) {
                tape += (char) (number >> shift & 255);
            }
        }
        return tape.length();
    }

    int trim(int n) {
        argument(0 <= n && n <= tape.length());
        tape = tape.substring(0, n);
        return n;
    }

    int teach() {
        List<Grammar.Token> tokens = Grammar.tokens(tape);
        tape = "";
        errorAt = -1;
        Object read = Grammar.read(tokens);
        if (read instanceof Integer wrong) {
            errorAt = tokens.get(wrong).start();
            return 1;
        }
        int error = laterError(tokens);
        if (error == 0) {
            take((Grammar.Node) read);
        }
        return error;
    }

    private int laterError(List<Grammar.Token> tokens) {
        Set<String> planetNames = new HashSet<>();
        Set<String> letterNames = new HashSet<>();
        int[] rulesTold = {0};
        for (int i = 0; i < tokens.size(); i++) {
            int error = errorOf(tokens, i, planetNames, letterNames, rulesTold);
            if (error != 0) {
                errorAt = tokens.get(i).start();
                return error;
            }
        }
        return 0;
    }

    private static int errorOf(List<Grammar.Token> tokens, int i, Set<String> planetNames, Set<String> letterNames,
            int[] rulesTold) {
        String text = tokens.get(i).text();
        String ahead = i < 1 ? "" : tokens.get(i - 1).text();
        String further = i < 2 ? "" : tokens.get(i - 2).text();
        char kind = tokens.get(i).kind();
        if (text.equals("when")) {
            return ++rulesTold[0] == 13 ? 4 : 0;
        }
        if (kind == '1') {
            return isInRange(ahead, Integer.parseInt(text), further) ? 0 : 5;
        }
        if (kind != 'n') {
            return 0;
        }
        if (ahead.equals("planet")) {
            return !planetNames.add(text) ? 2 : planetNames.size() == 9 ? 4 : 0;
        }
        if (ahead.equals("alphabet")) {
            return !letterNames.add(text) ? 2 : letterNames.size() == 7 ? 4 : 0;
        }
        if (further.equals("alphabet")) {
            return text.matches(".*([0-9].*|(.).*\\2.*)") ? 7 : 0;
        }
        if (ahead.equals("of")) {
            return letterNames.contains(text) ? 0 : 3;
        }
        boolean isSecond = further.equals("transit") || further.equals("opposite") || further.equals("gap");
        return !planetNames.contains(text) ? 3 : isSecond && ahead.equals(text) ? 6 : 0;
    }

    private static boolean isInRange(String ahead, int number, String further) {
        switch (ahead) {
            case "rail": return 1 <= number && number <= 20;
            case "speed": return 1 <= number && number <= 60;
            case "from": return number <= 359;
            case "retro": return number <= 29;
            case "every": return 1 <= number && number <= 60 && number > Integer.parseInt(further);
            default: return true;
        }
    }

    private void take(Grammar.Node text) {
        planets = new ArrayList<>();
        alphabets = new ArrayList<>();
        alphabetNames = new ArrayList<>();
        rules = new ArrayList<>();
        wrote = new ArrayList<>();
        for (Object item : text.items()) {
            Grammar.Node node = (Grammar.Node) item;
            if (node.name().equals("planet")) {
                planets.add(planet(node));
            } else if (node.name().equals("alphabet")) {
                alphabetNames.add(node.text(1));
                alphabets.add(node.node(2).text(0));
            } else {
                rules.add(node);
                wrote.add(0);
            }
        }
    }

    private static Planet planet(Grammar.Node node) {
        Planet planet = new Planet();
        planet.name = node.text(1);
        for (int i = 2; i + 1 < node.items().size(); i += 2) {
            int number = Integer.parseInt(node.text(i + 1));
            switch (node.text(i)) {
                case "rail" -> planet.rail = number;
                case "speed" -> planet.speed = number;
                case "from" -> planet.angle = number;
                case "retro" -> planet.retro = number;
                default -> planet.every = number;
            }
        }
        planet.before = planet.angle;
        return planet;
    }

    int errorAt() {
        return errorAt;
    }

    int count(int what) {
        index(isOf(what, 8));
        int retros = 0;
        int pairs = 0;
        for (int a = 0; a < planets.size(); a++) {
            retros += isRetro(planets.get(a)) ? 1 : 0;
            for (int b = 0; b < a; b++) {
                pairs += meets(a, b, false) ? 1 : 0;
            }
        }
        return new int[] {day, planets.size(), alphabets.size(), rules.size(), tape.length(), paper.length(), retros,
            pairs}[what];
    }

    private boolean isRetro(Planet planet) {
        return day % planet.every < planet.retro;
    }

    int planet(int planet, int what) {
        index(isOf(planet, planets.size()) && isOf(what, 7));
        Planet p = planets.get(planet);
        return new int[] {p.rail, p.speed, p.angle, p.lap, p.retro, p.every, isRetro(p) ? 1 : 0}[what];
    }

    int set(int planet, int angle) {
        index(isOf(planet, planets.size()));
        argument(isOf(angle, 360));
        Planet p = planets.get(planet);
        int old = p.angle;
        p.angle = angle;
        p.before = angle;
        return old;
    }

    private static int gapOf(int first, int second) {
        int gap = first - second;
        while (gap > 180) {
            gap -= 360;
        }
        while (gap < -179) {
            gap += 360;
        }
        return gap;
    }

    int gap(int a, int b) {
        index(isOf(a, planets.size()) && isOf(b, planets.size()));
        return gapOf(planets.get(a).angle, planets.get(b).angle);
    }

    boolean meets(int a, int b, boolean isOpposite) {
        index(isOf(a, planets.size()) && isOf(b, planets.size()));
        int further = isOpposite ? 180 : 0;
        int now = gapOf(planets.get(a).angle, planets.get(b).angle + further);
        int before = gapOf(planets.get(a).before, planets.get(b).before + further);
        return now == 0 || Integer.signum(now) * Integer.signum(before) == -1 && Math.abs(now) + Math.abs(before) < 180;
    }

    int letter(int alphabet, int index) {
        index(isOf(alphabet, alphabets.size()) && isOf(index, alphabets.get(alphabet).length()));
        return alphabets.get(alphabet).charAt(index);
    }

    int wrote(int rule) {
        index(isOf(rule, rules.size()));
        return wrote.get(rule);
    }

    int pass(int days) {
        argument(1 <= days && days <= 300);
        int before = paper.length();
        for (int i = 0; i < days; i++) {
            oneDay();
        }
        return paper.length() - before;
    }

    private void oneDay() {
        day++;
        for (Planet planet : planets) {
            planet.before = planet.angle;
            for (int degree = 0; degree < planet.speed; degree++) {
                if (isRetro(planet)) {
                    planet.lap -= planet.angle == 0 ? 1 : 0;
                    planet.angle = planet.angle == 0 ? 359 : planet.angle - 1;
                } else {
                    planet.lap += planet.angle == 359 ? 1 : 0;
                    planet.angle = planet.angle == 359 ? 0 : planet.angle + 1;
                }
            }
        }
        for (int rule = 0; rule < rules.size(); rule++) {
            Grammar.Node told = rules.get(rule);
            if (holds(told.node(1)) && paper.length() < 600) {
                String letters = alphabets.get(alphabetNames.indexOf(told.text(5)));
                paper += letters.charAt(Math.floorMod(valueOf(told.node(3)), letters.length()));
                wrote.set(rule, wrote.get(rule) + 1);
            }
        }
    }

    private int planetNamed(String name) {
        for (int i = 0; i < planets.size(); i++) {
            if (planets.get(i).name.equals(name)) {
                return i;
            }
        }
        throw new AssertionError(name);
    }

    private boolean holds(Grammar.Node node) {
        boolean holds = false;
        switch (node.name()) {
            case "test":
                for (int i = 0; i < node.items().size(); i += 2) {
                    holds = holds | holds(node.node(i));
                }
                return holds;
            case "both":
                holds = true;
                for (int i = 0; i < node.items().size(); i += 2) {
                    holds = holds & holds(node.node(i));
                }
                return holds;
            default:
                return single(node);
        }
    }

    private boolean single(Grammar.Node node) {
        switch (node.text(0)) {
            case "not": return !holds(node.node(1));
            case "[": return holds(node.node(1));
            case "retro": return isRetro(planets.get(planetNamed(node.text(1))));
            case "transit":
            case "opposite":
                int a = planetNamed(node.text(1));
                int b = planetNamed(node.text(2));
                boolean isTransit = node.text(0).equals("transit");
                return meets(a, b, !isTransit) && (!isTransit || planets.get(a).rail <= planets.get(b).rail);
            default:
        }
        int left = valueOf(node.node(0));
        int right = valueOf(node.node(2));
        switch (node.text(1)) {
            case "<": return left < right;
            case ">": return left > right;
            case "=": return left == right;
            case "<=": return left <= right;
            default: return left >= right;
        }
    }

    private int valueOf(Grammar.Node node) {
        if (node.name().equals("value")) {
            return value(node);
        }
        int result = valueOf(node.node(0));
        for (int i = 2; i < node.items().size(); i += 2) {
            result = reckon(result, node.text(i - 1), valueOf(node.node(i)));
        }
        return result;
    }

    private static int reckon(int left, String sign, int right) {
        switch (sign) {
            case "+": return left + right;
            case "-": return left - right;
            case "*": return left * right;
            case "/": return right == 0 ? 0 : (int) ((long) left / right);
            default: return right == 0 ? 0 : (int) ((long) left % right);
        }
    }

    private int value(Grammar.Node node) {
        switch (node.text(0)) {
            case "day": return day;
            case "length": return paper.length();
            case "at": return planets.get(planetNamed(node.text(1))).angle;
            case "lap": return planets.get(planetNamed(node.text(1))).lap;
            case "gap": return gap(planetNamed(node.text(1)), planetNamed(node.text(2)));
            case "-": return -valueOf(node.node(1));
            case "(": return valueOf(node.node(1));
            case "min": return Math.min(valueOf(node.node(2)), valueOf(node.node(4)));
            case "max": return Math.max(valueOf(node.node(2)), valueOf(node.node(4)));
            default: return Integer.parseInt(node.text(0));
        }
    }

    int byteAt(int index) {
        index(isOf(index, paper.length()));
        return paper.charAt(index);
    }

    int clear() {
        int had = paper.length();
        paper = "";
        return had;
    }

    int find() {
        return tape.isEmpty() ? -1 : paper.indexOf(tape);
    }

    int translate(int alphabet, int other) {
        index(isOf(alphabet, alphabets.size()) && isOf(other, alphabets.size()));
        StringBuilder anew = new StringBuilder();
        int changed = 0;
        for (char letter : paper.toCharArray()) {
            int number = alphabets.get(alphabet).indexOf(letter);
            boolean isOther = isOf(number, alphabets.get(other).length());
            anew.append(isOther ? alphabets.get(other).charAt(number) : letter);
            changed += anew.charAt(anew.length() - 1) == letter ? 0 : 1;
        }
        paper = anew.toString();
        return changed;
    }

    int foresee(int days, int what) {
        argument(1 <= days && days <= 300);
        index(isOf(what, 3));
        Model then = copy();
        int letters = then.pass(days);
        int laps = then.planets.stream().mapToInt(planet -> planet.lap).sum();
        return new int[] {letters, then.count(7), laps}[what];
    }

    int next(int a, int b, boolean isOpposite) {
        index(isOf(a, planets.size()) && isOf(b, planets.size()));
        Model then = copy();
        then.rules = List.of();
        for (int days = 1; days <= 1000; days++) {
            then.oneDay();
            if (then.meets(a, b, isOpposite)) {
                return days;
            }
        }
        return -1;
    }

    int spells() {
        Model then = copy();
        then.tape = tape;
        for (int days = 0; days <= 400; days++) {
            if (then.find() >= 0) {
                return days;
            }
            then.oneDay();
        }
        return -1;
    }

    int again(int days) {
        argument(1 <= days && days <= 2000);
        Model then = copy();
        then.rules = List.of();
        for (int day = 1; day <= days && !planets.isEmpty(); day++) {
            then.oneDay();
            boolean isSame = true;
            for (int i = 0; i < planets.size(); i++) {
                isSame &= then.planets.get(i).angle == planets.get(i).angle;
            }
            if (isSame) {
                return day;
            }
        }
        return -1;
    }

    int advise(int planet, int days) {
        index(isOf(planet, planets.size()));
        argument(1 <= days && days <= 60);
        int best = 0;
        int most = 0;
        for (int n = 0; n < 36; n++) {
            Model then = copy();
            then.set(planet, (planets.get(planet).angle + n * 10) % 360);
            int letters = then.pass(days);
            if (letters > most) {
                most = letters;
                best = n;
            }
        }
        return best;
    }

    double mean() {
        int sum = wrote.stream().mapToInt(Integer::intValue).sum();
        return day == 0 ? 0 : sum / (double) day;
    }

    long digest() {
        List<Integer> all = new ArrayList<>();
        for (int what = 0; what < 8; what++) {
            all.add(count(what));
        }
        for (int planet = 0; planet < planets.size(); planet++) {
            for (int what = 0; what < 7; what++) {
                all.add(planet(planet, what));
            }
        }
        for (String letters : alphabets) {
            all.add(letters.length());
            letters.chars().forEach(all::add);
        }
        all.addAll(wrote);
        paper.chars().forEach(all::add);
        long d = 727;
        for (int x : all) {
            d = d * 31 + x;
        }
        return d;
    }
}
