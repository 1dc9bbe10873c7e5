import java.util.ArrayList;
import java.util.Arrays;
import java.util.HashMap;
import java.util.List;
import java.util.Map;
import java.util.NoSuchElementException;

/**
 * The document once more, as slowly and as plainly as can be: what HotCakes answers in random runs is held
 * against this. It shares no code with HotCakes and goes other ways where there are any (forward where that
 * goes back, all rows of choices where that counts, rounds over all stacks where that keeps a queue).
 */
final class Slow {
    static final int NONE = -1;

    /** A stack as a text: for each place from the top the number of its cake, then u or d. */
    private String stack = "";
    private String told = "";
    private String wished = null;
    private String goal = null;
    private int turns = 0;
    private int spent = 0;
    private final StringBuilder tape = new StringBuilder();
    private List<Cake> cakes = new ArrayList<>();
    private Law bars = facts -> 0;
    private Law costs = facts -> 1;
    private List<Integer> plan = new ArrayList<>();
    private final List<Object[]> history = new ArrayList<>();
    private List<int[]> seen = new ArrayList<>();
    private final Object[][] marks = new Object[4][];
    private List<String> all = List.of("");
    private final Map<String, int[]> prices = new HashMap<>();
    private final Map<String, Map<String, Integer>> distances = new HashMap<>();
    private final Map<String, String[]> flips = new HashMap<>();
    private Map<Integer, Integer> needs = null;
    private Map<String, Integer> sums = null;
    private Map<String, Integer> game = null;

    private record Cake(String name, int kind, int wide, boolean up) {
        boolean side() {
            return kind == 1 || kind == 3;
        }
    }

    /** What a law says of take, left, weight, brown. */
    private interface Law {
        int say(int[] facts);
    }

    private static final class Fault extends Exception {
        private static final long serialVersionUID = 1;
        final int number;

        Fault(int kind, int place) {
            number = kind + 16 * place;
        }
    }

    private record Token(String text, int place) {
        boolean isWord() {
            return text.matches("[a-z]{1,8}");
        }

        boolean isNumber() {
            return text.matches("[0-9]{1,4}");
        }

        boolean is(String asked) {
            return text.equals(asked);
        }

        boolean isName() {
            return isWord() && !List.of("cake", "wide", "up", "down", "bars", "costs", "turn", "plain", "browned",
                "heavy", "glazed", "not", "and", "or").contains(text);
        }
    }

    // ---- the tape ----

    int feed(long a, long b, long c) {
        for (long bytes : new long[] {a, b, c}) {
            for (int i = 0; i < 8; i++) {
                int sign = (int) (bytes >> 8 * (7 - i)) & 0xff;
                if ((sign == '\n' || sign > 31 && sign < 127) && tape.length() < 1000) {
                    tape.append((char) sign);
                }
            }
        }
        return tape.length();
    }

    private List<Token> tokens;
    private int next;

    private void takeTape() {
        String text = tape.toString();
        tape.setLength(0);
        tokens = new ArrayList<>();
        next = 0;
        int i = 0;
        while (i < text.length()) {
            char c = text.charAt(i);
            if (c == ' ' || c == '\n') {
                i++;
                continue;
            }
            int j = i + 1;
            String run = c >= 'a' && c <= 'z' ? "[a-z]" : c >= '0' && c <= '9' ? "[0-9]" : null;
            while (run != null && j < text.length() && text.substring(j, j + 1).matches(run)) {
                j++;
            }
            tokens.add(new Token(text.substring(i, j), i));
            i = j;
        }
        tokens.add(new Token("", text.length()));
    }

    private Token peek() {
        return tokens.get(next);
    }

    private Fault strange() {
        return new Fault(1, peek().place());
    }

    private void need(String text) throws Fault {
        if (!peek().is(text)) {
            throw strange();
        }
        next++;
    }

    private int number(int from, int to) throws Fault {
        if (!peek().isNumber()) {
            throw strange();
        }
        int number = Integer.parseInt(peek().text());
        if (number < from || number > to) {
            throw new Fault(4, peek().place());
        }
        return number;
    }

    private boolean lie() throws Fault {
        if (!peek().is("up") && !peek().is("down")) {
            throw strange();
        }
        return tokens.get(next++).is("up");
    }

    int griddle() {
        takeTape();
        List<Cake> read = new ArrayList<>();
        Law[] laws = new Law[2];
        try {
            while (!peek().is("")) {
                if (peek().is("cake")) {
                    readCake(read);
                } else if (peek().is("bars") || peek().is("costs")) {
                    int which = peek().is("bars") ? 0 : 1;
                    if (laws[which] != null) {
                        throw new Fault(3, peek().place());
                    }
                    next++;
                    laws[which] = readLaw(0);
                    need(";");
                } else {
                    throw strange();
                }
            }
        } catch (Fault fault) {
            return fault.number;
        }
        become(read, laws);
        return 0;
    }

    private void readCake(List<Cake> read) throws Fault {
        if (read.size() == 5) {
            throw new Fault(5, peek().place());
        }
        next++;
        String name = peek().text();
        if (!peek().isName()) {
            throw strange();
        }
        if (read.stream().anyMatch(cake -> cake.name().equals(name))) {
            throw new Fault(3, peek().place());
        }
        next++;
        int kind = List.of("plain", "browned", "heavy", "glazed").indexOf(peek().text());
        if (kind < 0) {
            throw strange();
        }
        next++;
        need("wide");
        int wide = number(1, 30);
        if (read.stream().anyMatch(cake -> cake.wide() == wide)) {
            throw new Fault(3, peek().place());
        }
        next++;
        boolean up = lie();
        need(";");
        read.add(new Cake(name, kind, wide, up));
    }

    private Law readLaw(int depth) throws Fault {
        Law law = readTest(depth);
        while (peek().is("and") || peek().is("or")) {
            boolean and = tokens.get(next++).is("and");
            Law first = law;
            Law second = readTest(depth);
            law = facts -> {
                boolean one = first.say(facts) != 0;
                boolean two = second.say(facts) != 0;
                return (and ? one & two : one | two) ? 1 : 0;
            };
        }
        return law;
    }

    private Law readTest(int depth) throws Fault {
        Law first = readSum(depth);
        if (peek().is("<")) {
            next++;
            Law second = readSum(depth);
            return facts -> first.say(facts) < second.say(facts) ? 1 : 0;
        }
        if (peek().is("=")) {
            next++;
            Law second = readSum(depth);
            return facts -> first.say(facts) == second.say(facts) ? 1 : 0;
        }
        return first;
    }

    private Law readSum(int depth) throws Fault {
        Law law = readProduct(depth);
        while (peek().is("+") || peek().is("-")) {
            int sign = tokens.get(next++).is("+") ? 1 : -1;
            Law first = law;
            Law second = readProduct(depth);
            law = facts -> first.say(facts) + sign * second.say(facts);
        }
        return law;
    }

    private Law readProduct(int depth) throws Fault {
        Law law = readPart(depth);
        while (peek().is("*")) {
            next++;
            Law first = law;
            Law second = readPart(depth);
            law = facts -> first.say(facts) * second.say(facts);
        }
        return law;
    }

    private Law readPart(int depth) throws Fault {
        Token token = peek();
        int fact = List.of("take", "left", "weight", "brown").indexOf(token.text());
        if (!token.isNumber() && fact < 0 && !token.is("not") && !token.is("(")) {
            throw strange();
        }
        if (depth > 4) {
            throw new Fault(5, token.place());
        }
        next++;
        if (fact >= 0) {
            return facts -> facts[fact];
        }
        if (token.isNumber()) {
            int number = Integer.parseInt(token.text());
            return facts -> number;
        }
        if (token.is("not")) {
            Law part = readPart(depth + 1);
            return facts -> part.say(facts) == 0 ? 1 : 0;
        }
        Law law = readLaw(depth + 1);
        need(")");
        return law;
    }

    int plan() {
        takeTape();
        List<Integer> read = new ArrayList<>();
        try {
            while (!peek().is("")) {
                if (peek().is("turn") && read.size() == 40) {
                    throw new Fault(5, peek().place());
                }
                need("turn");
                read.add(number(1, cakes.size()));
                next++;
                need(";");
            }
        } catch (Fault fault) {
            return fault.number;
        }
        plan = read;
        return 0;
    }

    int wish() {
        takeTape();
        StringBuilder read = new StringBuilder();
        try {
            for (int i = 0; i < cakes.size(); i++) {
                Token token = peek();
                if (!token.isName()) {
                    throw strange();
                }
                int cake = find(token.text());
                if (cake < 0) {
                    throw new Fault(2, token.place());
                }
                if (read.indexOf("" + cake) >= 0) {
                    throw new Fault(3, token.place());
                }
                next++;
                read.append(cake).append(lie() && cakes.get(cake).side() ? 'u' : 'd');
            }
            if (!peek().is("")) {
                throw strange();
            }
        } catch (Fault fault) {
            return fault.number;
        }
        wished = read.toString();
        return 0;
    }

    private int find(String name) {
        for (int i = 0; i < cakes.size(); i++) {
            if (cakes.get(i).name().equals(name)) {
                return i;
            }
        }
        return -1;
    }

    private void become(List<Cake> read, Law[] laws) {
        cakes = read;
        bars = laws[0] == null ? facts -> 0 : laws[0];
        costs = laws[1] == null ? facts -> 1 : laws[1];
        told = "";
        for (int i = 0; i < cakes.size(); i++) {
            told += i + (cakes.get(i).side() && cakes.get(i).up() ? "u" : "d");
        }
        stack = told;
        turns = 0;
        spent = 0;
        plan = new ArrayList<>();
        wished = null;
        seen = new ArrayList<>();
        history.clear();
        Arrays.fill(marks, null);
        prices.clear();
        flips.clear();
        needs = null;
        goal = null;
        distances.clear();
        sums = null;
        game = null;
        all = new ArrayList<>();
        fill("");
    }

    /** All stacks, in the order of NTH only as far as the cakes go. */
    private void fill(String begun) {
        if (begun.length() == 2 * cakes.size()) {
            all.add(begun);
        }
        for (int i = 0; i < cakes.size(); i++) {
            if (begun.indexOf("" + i) < 0) {
                fill(begun + i + "d");
                if (cakes.get(i).side()) {
                    fill(begun + i + "u");
                }
            }
        }
    }

    // ---- turning ----

    private int cakeIn(String of, int place) {
        return of.charAt(2 * place) - '0';
    }

    private boolean upIn(String of, int place) {
        return of.charAt(2 * place + 1) == 'u';
    }

    private String flip(String of, int many) {
        return flips.computeIfAbsent(of, key -> {
            String[] found = new String[cakes.size() + 1];
            for (int each = 1; each <= cakes.size(); each++) {
                found[each] = flipped(key, each);
            }
            return found;
        })[many];
    }

    private String flipped(String of, int many) {
        String top = "";
        for (int place = 0; place < many; place++) {
            int cake = cakeIn(of, place);
            top = cake + (cakes.get(cake).side() && !upIn(of, place) ? "u" : "d") + top;
        }
        return top + of.substring(2 * many);
    }

    private boolean isTurn(int many) {
        return many >= 1 && many <= cakes.size();
    }

    private int[] facts(String of, int many) {
        int weight = 0;
        int brown = 0;
        for (int place = 0; place < many; place++) {
            Cake cake = cakes.get(cakeIn(of, place));
            weight += cake.kind() == 2 ? 2 * cake.wide() : cake.wide();
            brown += cake.side() && upIn(of, place) ? 1 : 0;
        }
        return new int[] {many, cakes.size() - many, weight, brown};
    }

    /** What each turn costs (0 if it can't be). */
    private int[] pricesOf(String of) {
        return prices.computeIfAbsent(of, key -> {
            int[] found = new int[cakes.size() + 1];
            for (int many = 1; many <= cakes.size(); many++) {
                boolean stuck = many > 1 && cakes.get(cakeIn(of, many - 1)).kind() == 3;
                found[many] = stuck || bars.say(facts(of, many)) != 0 ? 0 : costOf(of, many);
            }
            return found;
        });
    }

    private int costOf(String of, int many) {
        int cost = costs.say(facts(of, many));
        return cost < 1 ? 1 : cost > 9 ? 9 : cost;
    }

    private boolean canTurn(String of, int many) {
        return isTurn(many) && pricesOf(of)[many] != 0;
    }

    private boolean isServed(String of) {
        for (int place = 0; place < cakes.size(); place++) {
            boolean wider = place > 0 && cakes.get(cakeIn(of, place - 1)).wide() > cakes.get(cakeIn(of, place)).wide();
            if (upIn(of, place) || wider) {
                return false;
            }
        }
        return true;
    }

    int cake(int cake, int what) {
        if (cake < 0 || cake >= cakes.size()) {
            return NONE;
        }
        int at = stack.indexOf("" + cake);
        return what == 0 ? cakes.get(cake).kind() : what == 1 ? cakes.get(cake).wide() : what == 2 ? at / 2
            : what == 3 ? (stack.charAt(at + 1) == 'u' ? 1 : 0) : NONE;
    }

    int there(int place) {
        return place < 0 || place >= cakes.size() ? NONE : cakeIn(stack, place);
    }

    int turn(int many) {
        if (!canTurn(stack, many)) {
            return NONE;
        }
        int price = costOf(stack, many);
        history.add(new Object[] {stack, turns, spent});
        if (history.size() > 16) {
            history.remove(0);
        }
        stack = flip(stack, many);
        turns++;
        spent += price;
        return price;
    }

    boolean undo() {
        if (history.isEmpty()) {
            return false;
        }
        Object[] before = history.remove(history.size() - 1);
        stack = (String) before[0];
        turns = (Integer) before[1];
        spent = (Integer) before[2];
        return true;
    }

    boolean can(int many) {
        return canTurn(stack, many);
    }

    int cost(int many) {
        return isTurn(many) ? costOf(stack, many) : NONE;
    }

    boolean served() {
        return isServed(stack);
    }

    int judged(int what) {
        String at = told;
        int barred = NONE;
        int ready = NONE;
        int sum = 0;
        for (int line = plan.size() - 1; line >= 0; line--) {
            at = told;
            sum = 0;
            for (int i = 0; i <= line; i++) {
                boolean can = canTurn(at, plan.get(i));
                barred = !can && i == line ? line : barred;
                sum += can ? costOf(at, plan.get(i)) : 0;
                at = can ? flip(at, plan.get(i)) : at;
            }
            ready = isServed(at) ? line : ready;
        }
        sum = 0;
        at = told;
        for (int many : plan) {
            sum += canTurn(at, many) ? costOf(at, many) : 0;
            at = canTurn(at, many) ? flip(at, many) : at;
        }
        return what == 0 ? barred : what == 1 ? ready : what == 2 ? sum : -2;
    }

    // ---- the fewest turns ----

    /** How many turns it is from a stack to each; the turn left out is never made. */
    private Map<String, Integer> distancesFrom(String start, int leftOut) {
        return distances.computeIfAbsent(start + "/" + leftOut, key -> {
            Map<String, Integer> found = new HashMap<>();
            found.put(start, 0);
            List<String> round = List.of(start);
            for (int turn = 1; !round.isEmpty(); turn++) {
                List<String> later = new ArrayList<>();
                for (String of : round) {
                    for (int many = 1; many <= cakes.size(); many++) {
                        String to = flip(of, many);
                        if (many != leftOut && canTurn(of, many) && !found.containsKey(to)) {
                            found.put(to, turn);
                            later.add(to);
                        }
                    }
                }
                round = later;
            }
            return found;
        });
    }

    private String goal() {
        if (goal != null) {
            return goal;
        }
        for (String of : all) {
            if (isServed(of)) {
                goal = of;
                return of;
            }
        }
        throw new IllegalStateException();
    }

    private int between(String from, String to, int leftOut) {
        return distancesFrom(from, leftOut).getOrDefault(to, NONE);
    }

    int least() {
        return between(stack, goal(), 0);
    }

    private int firstTurn(String from, String to) {
        int rest = between(from, to, 0);
        for (int many = 1; many <= cakes.size() && rest > 0; many++) {
            if (canTurn(from, many) && between(flip(from, many), to, 0) == rest - 1) {
                return many;
            }
        }
        return NONE;
    }

    int row(int i) {
        if (i < 0 || i >= least()) {
            return NONE;
        }
        String at = stack;
        for (int j = 0; j < i; j++) {
            at = flip(at, firstTurn(at, goal()));
        }
        return firstTurn(at, goal());
    }

    int ways() {
        return (int) Math.min(2000000000L, waysFrom(stack, goal(), new HashMap<>()));
    }

    private long waysFrom(String from, String to, Map<String, Long> known) {
        int rest = between(from, to, 0);
        if (rest <= 0) {
            return rest + 1;
        }
        Long before = known.get(from);
        if (before != null) {
            return before;
        }
        long sum = 0;
        for (int many = 1; many <= cakes.size(); many++) {
            if (canTurn(from, many) && between(flip(from, many), to, 0) == rest - 1) {
                sum += waysFrom(flip(from, many), to, known);
            }
        }
        known.put(from, Math.min(sum, 2000000000L));
        return known.get(from);
    }

    private Map<String, Integer> sums() {
        if (sums == null) {
            sums = new HashMap<>();
            sums.put(goal(), 0);
            boolean better = true;
            while (better) {
                better = false;
                for (String of : all) {
                    for (int many = 1; many <= cakes.size(); many++) {
                        Integer rest = canTurn(of, many) ? sums.get(flip(of, many)) : null;
                        if (rest != null && rest + costOf(of, many) < sums.getOrDefault(of, Integer.MAX_VALUE)) {
                            sums.put(of, rest + costOf(of, many));
                            better = true;
                        }
                    }
                }
            }
        }
        return sums;
    }

    int cheap() {
        return sums().getOrDefault(stack, NONE);
    }

    int bill(int i) {
        List<Integer> row = new ArrayList<>();
        String at = stack;
        while (sums().getOrDefault(at, 0) > 0) {
            int many = 1;
            while (!canTurn(at, many) || !sums().containsKey(flip(at, many))
                || sums().get(flip(at, many)) + costOf(at, many) != sums().get(at)) {
                many++;
            }
            row.add(many);
            at = flip(at, many);
        }
        return i < 0 || i >= row.size() ? NONE : row.get(i);
    }

    int without(int many) {
        return isTurn(many) ? between(stack, goal(), many) : NONE;
    }

    int needed() {
        if (least() < 0) {
            return NONE;
        }
        int bits = 0;
        for (int many = 1; many <= cakes.size(); many++) {
            bits += without(many) < 0 ? 1 << many - 1 : 0;
        }
        return bits;
    }

    int far() {
        return wished == null ? NONE : between(stack, wished, 0);
    }

    int toward() {
        return wished == null ? NONE : firstTurn(stack, wished);
    }

    // ---- all stacks ----

    /** How many of all stacks need so many turns at the least, by that number; never: NONE. */
    private Map<Integer, Integer> needs() {
        if (needs != null) {
            return needs;
        }
        Map<Integer, Integer> found = new HashMap<>();
        Map<String, Integer> fewest = new HashMap<>();
        fewest.put(goal(), 0);
        boolean more = true;
        for (int turn = 1; more; turn++) {
            more = false;
            for (String of : all) {
                for (int many = 1; many <= cakes.size() && !fewest.containsKey(of); many++) {
                    if (canTurn(of, many) && fewest.getOrDefault(flip(of, many), turn) == turn - 1) {
                        fewest.put(of, turn);
                        more = true;
                    }
                }
            }
        }
        for (String of : all) {
            found.merge(fewest.getOrDefault(of, NONE), 1, Integer::sum);
        }
        needs = found;
        return found;
    }

    int never() {
        return needs().getOrDefault(NONE, 0);
    }

    int hard(int what) {
        Map<Integer, Integer> needs = needs();
        int most = needs.keySet().stream().max(Integer::compare).get();
        return what == 0 ? most : what == 1 ? needs.get(most) : NONE;
    }

    int spread(int turns) {
        return turns < 0 || turns > 60 ? NONE : needs().getOrDefault(turns, 0);
    }

    int dear() {
        return sums().values().stream().max(Integer::compare).get();
    }

    int rim() {
        return distancesFrom(stack, 0).values().stream().max(Integer::compare).get();
    }

    int nth() {
        int ahead = 0;
        for (String of : all) {
            ahead += key(of).compareTo(key(stack)) < 0 ? 1 : 0;
        }
        return ahead;
    }

    private String key(String of) {
        return of.replaceAll("[ud]", "") + of.replaceAll("[0-9]", "");
    }

    int ring(int many, int other) {
        if (!isTurn(many) || !isTurn(other)) {
            return NONE;
        }
        String at = stack;
        for (int round = 1; round <= 60; round++) {
            for (int each : new int[] {many, other}) {
                if (!canTurn(at, each)) {
                    return NONE;
                }
                at = flip(at, each);
            }
            if (at.equals(stack)) {
                return 2 * round;
            }
        }
        return NONE;
    }

    int pairs() {
        int found = 0;
        for (int upper = 0; upper < cakes.size(); upper++) {
            for (int lower = 0; lower < cakes.size(); lower++) {
                boolean wrong = cakes.get(cakeIn(stack, upper)).wide() > cakes.get(cakeIn(stack, lower)).wide();
                found += upper < lower && wrong ? 1 : 0;
            }
        }
        return found;
    }

    int reached(int turns) {
        return turns < 0 || turns > 60 ? NONE
            : (int) distancesFrom(stack, 0).values().stream().filter(each -> each <= turns).count();
    }

    int gaps() {
        String goal = goal();
        int found = 0;
        for (int place = 0; place < cakes.size(); place++) {
            int cake = cakeIn(stack, place);
            int rank = goal.indexOf("" + cake) / 2;
            boolean down = !upIn(stack, place);
            boolean up = !down || !cakes.get(cake).side();
            if (place == cakes.size() - 1) {
                found += rank == cakes.size() - 1 && down ? 0 : 1;
                continue;
            }
            int below = cakeIn(stack, place + 1);
            int belowRank = goal.indexOf("" + below) / 2;
            boolean belowDown = !upIn(stack, place + 1);
            boolean belowUp = !belowDown || !cakes.get(below).side();
            boolean good = belowRank == rank + 1 && down && belowDown || belowRank == rank - 1 && up && belowUp;
            found += good ? 0 : 1;
        }
        return found;
    }

    boolean sharp() {
        return least() == gaps();
    }

    // ---- the plan ----

    int again() {
        String at = stack;
        for (int times = 1; times <= 60; times++) {
            for (int many : plan) {
                if (!canTurn(at, many)) {
                    return NONE;
                }
                at = flip(at, many);
            }
            if (at.equals(stack)) {
                return times;
            }
        }
        return NONE;
    }

    private String end(String from, List<Integer> lines) {
        String at = from;
        for (int many : lines) {
            at = canTurn(at, many) ? flip(at, many) : at;
        }
        return at;
    }

    int spare() {
        int found = 0;
        for (int i = 0; i < plan.size(); i++) {
            List<Integer> others = new ArrayList<>(plan);
            others.remove(i);
            found += end(told, others).equals(end(told, plan)) ? 1 : 0;
        }
        return found;
    }

    boolean ends() {
        return isServed(end(stack, plan));
    }

    // ---- two cooks ----

    /** Behind how many turns it ends, from each stack that does: odd, who turns wins; even, he loses. */
    private Map<String, Integer> game() {
        if (game != null) {
            return game;
        }
        game = new HashMap<>();
        boolean more = true;
        for (int round = 0; more; round++) {
            Map<String, Integer> fresh = new HashMap<>();
            for (String of : all) {
                if (!game.containsKey(of) && endsIn(of, round)) {
                    fresh.put(of, round);
                }
            }
            game.putAll(fresh);
            more = !fresh.isEmpty();
        }
        return game;
    }

    private boolean endsIn(String of, int round) {
        if (isServed(of)) {
            return round == 0;
        }
        boolean allWon = true;
        for (int many = 1; many <= cakes.size(); many++) {
            if (canTurn(of, many)) {
                Integer later = game.get(flip(of, many));
                if (later != null && later % 2 == 0) {
                    return later == round - 1;
                }
                allWon &= later != null;
            }
        }
        return allWon;
    }

    int wins(int what) {
        Integer ending = game().get(stack);
        return what == 0 ? (ending == null ? 2 : ending % 2) : what == 1 ? (ending == null ? NONE : ending) : -2;
    }

    int his() {
        Integer ending = game().get(stack);
        if (isServed(stack)) {
            return NONE;
        }
        for (int many = 1; many <= cakes.size(); many++) {
            if (canTurn(stack, many)) {
                Integer later = game().get(flip(stack, many));
                if (ending == null ? later == null : later != null && later == ending - 1) {
                    return many;
                }
            }
        }
        return NONE;
    }

    // ---- what is seen, chance, slice, mornings, marks ----

    boolean see(int place, int cake, boolean is) {
        if (place < 0 || place >= cakes.size() || cake < 0 || cake >= cakes.size() || seen.size() == 8) {
            return false;
        }
        seen.add(new int[] {0, place, cake, is ? 1 : 0});
        return true;
    }

    boolean lies(int place, boolean up) {
        if (place < 0 || place >= cakes.size() || seen.size() == 8) {
            return false;
        }
        seen.add(new int[] {1, place, 0, up ? 1 : 0});
        return true;
    }

    private List<String> fitting() {
        List<String> found = new ArrayList<>();
        for (String of : all) {
            boolean fits = true;
            for (int[] each : seen) {
                boolean is = each[0] == 0 ? cakeIn(of, each[1]) == each[2] : upIn(of, each[1]);
                fits &= is == (each[3] == 1);
            }
            if (fits) {
                found.add(of);
            }
        }
        return found;
    }

    int fit() {
        return fitting().size();
    }

    int look() {
        List<String> found = fitting();
        int best = NONE;
        int least = found.size();
        for (int place = 0; place < cakes.size(); place++) {
            Map<String, Integer> groups = new HashMap<>();
            for (String of : found) {
                groups.merge(of.substring(2 * place, 2 * place + 2), 1, Integer::sum);
            }
            int most = groups.values().stream().max(Integer::compare).orElse(0);
            if (most < least) {
                least = most;
                best = place;
            }
        }
        return best;
    }

    int chance(int times, boolean ever) {
        if (times < 1 || times > 6 || cakes.isEmpty()) {
            return NONE;
        }
        long rows = 1;
        for (int i = 0; i < times; i++) {
            rows *= cakes.size();
        }
        return (int) (1000000L * goodRows(stack, times, ever) / rows);
    }

    private long goodRows(String at, int times, boolean ever) {
        if (times == 0) {
            return isServed(at) ? 1 : 0;
        }
        long found = 0;
        for (int many = 1; many <= cakes.size(); many++) {
            String to = canTurn(at, many) && !(ever && isServed(at)) ? flip(at, many) : at;
            found += goodRows(to, times - 1, ever);
        }
        return found;
    }

    int rests(int lose, int turns, int waits, int what) {
        for (int each : new int[] {lose, turns, waits}) {
            if (each < 0 || each > 9) {
                throw new NoSuchElementException();
            }
        }
        int[][][] gets = {{{0, 0}, {waits, turns}}, {{turns, waits}, {-lose, -lose}}};
        List<Integer> found = new ArrayList<>();
        for (int one = 0; one < 2; one++) {
            for (int two = 0; two < 2; two++) {
                if (gets[1 - one][two][0] <= gets[one][two][0] && gets[one][1 - two][1] <= gets[one][two][1]) {
                    found.add(2 * one + two);
                }
            }
        }
        if (what < NONE || what >= found.size()) {
            throw new NoSuchElementException();
        }
        return what == NONE ? found.size() : found.get(what);
    }

    int mornings(int seed, int turns, int what) {
        if (seed < 0 || seed > 9999 || turns < 1 || turns > 99 || what < 0 || what > 2) {
            return -2;
        }
        java.math.BigInteger g = java.math.BigInteger.valueOf(seed);
        String at = stack;
        int could = 0;
        int sum = 0;
        int behind = isServed(at) ? 0 : NONE;
        for (int i = 1; i <= turns && !cakes.isEmpty(); i++) {
            g = g.multiply(java.math.BigInteger.valueOf(1103515245)).add(java.math.BigInteger.valueOf(12345))
                .mod(java.math.BigInteger.TWO.pow(31));
            int many = 1 + g.shiftRight(16).intValue() % cakes.size();
            if (canTurn(at, many)) {
                could++;
                sum += costOf(at, many);
                at = flip(at, many);
            }
            behind = behind < 0 && isServed(at) ? i : behind;
        }
        return what == 0 ? could : what == 1 ? sum : behind;
    }

    boolean mark(int mark, boolean back) {
        if (mark < 0 || mark > 3 || back && marks[mark] == null) {
            return false;
        }
        if (!back) {
            marks[mark] = new Object[] {stack, turns, spent, new ArrayList<>(seen)};
            return true;
        }
        stack = (String) marks[mark][0];
        turns = (Integer) marks[mark][1];
        spent = (Integer) marks[mark][2];
        seen = new ArrayList<>();
        for (Object each : (List<?>) marks[mark][3]) {
            seen.add((int[]) each);
        }
        history.clear();
        return true;
    }

    int count(int what) {
        int bits = 0;
        for (int many = 1; many <= cakes.size(); many++) {
            bits += canTurn(stack, many) ? 1 << many - 1 : 0;
        }
        int[] counts = {cakes.size(), all.size(), turns, spent, bits, plan.size(), wished == null ? 0 : cakes.size(),
            seen.size(), history.size(), tape.length()};
        return what < 0 || what > 9 ? NONE : counts[what];
    }
}
