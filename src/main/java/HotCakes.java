import java.util.Arrays;
import java.util.NoSuchElementException;

/** Hot cakes in a stack, turned over from the top by a slice, and what can be known of them. */
public final class HotCakes {
    public static final int NONE = -1;

    private static final int OTHERS = -2;

    private static final int MOST_SIGNS = 1000;
    private static final int MOST_LETTERS = 8;
    private static final int MOST_DIGITS = 4;

    private static final int MOST_CAKES = 5;
    private static final int WIDEST = 30;
    private static final int MOST_LINES = 40;
    private static final int MOST_WITHIN = 5;
    /** Each depth of a law keeps four values waiting at most. */
    private static final int MOST_VALUES = 32;

    /** 5! orders, and in each of them 2^5 ways to lie. */
    private static final int MOST_ORDERS = 120;
    private static final int MOST_STACKS = 3840;
    private static final int CAKE_SETS = 32;
    private static final int[] FACTORIALS = {1, 1, 2, 6, 24, 120};

    private static final int PLAIN = 0;
    private static final int BROWNED = 1;
    private static final int HEAVY = 2;
    private static final int GLAZED = 3;

    private static final int MOST_COST = 9;
    private static final int MOST_UNDO = 16;
    private static final int MOST_ASKED = 60;
    private static final int MOST_WAYS = 2000000000;
    private static final int MOST_SEEN = 8;
    private static final int MARKS = 4;
    private static final int MOST_TIMES = 6;
    private static final int MOST_SEED = 9999;
    private static final int MOST_DRAWS = 99;

    private static final int ALIEN = 1;
    private static final int UNKNOWN = 2;
    private static final int TWICE = 3;
    private static final int UNFIT = 4;
    private static final int TOO_MANY = 5;

    /** Steps of a law that are no numbers: facts, then what is done with the values there are. */
    private static final int TAKE = -1;
    private static final int LEFT = -2;
    private static final int WEIGHT = -3;
    private static final int BROWN = -4;
    private static final int NOT = -5;
    private static final int AND = -6;
    private static final int OR = -7;
    private static final int LESS = -8;
    private static final int SAME = -9;
    private static final int PLUS = -10;
    private static final int MINUS = -11;
    private static final int TIMES = -12;

    /** Types of tokens; the type of a sign is the sign itself. */
    private static final char END = 'e';
    private static final char STRANGE = 's';
    private static final char WORD = 'w';
    private static final char NUMBER = 'n';

    private static final Word[] WORDS = Word.values();

    private final Tape tape = new Tape();
    private final Reader reader = new Reader(tape);
    private Griddle hot = new Griddle();
    private Griddle draft = new Griddle();
    private final Stacks stacks = new Stacks(hot);
    private final Lines lines = new Lines();
    private int wished = NONE;

    private final Moment now = new Moment();
    private final Moment[] marks = new Moment[MARKS];
    private final int[] undoTurns = new int[MOST_UNDO];
    private final int[] undoCosts = new int[MOST_UNDO];
    private int undoable;

    private final Steps toServed = new Steps(stacks, true, 0);
    private final Steps[] withouts = new Steps[MOST_CAKES];
    private final Steps toWish = new Steps(stacks, true, 0);
    private final Steps fromNow = new Steps(stacks, false, 0);
    private final Bills bills = new Bills(stacks);
    private final Cooks cooks = new Cooks(stacks);

    public HotCakes() {
        for (int i = 0; i < marks.length; i++) {
            marks[i] = new Moment();
        }
        for (int i = 0; i < withouts.length; i++) {
            withouts[i] = new Steps(stacks, true, i + 1);
        }
        now.begin(stacks.told());
    }

    public int feed(long a, long b, long c) {
        tape.addBytes(a);
        tape.addBytes(b);
        tape.addBytes(c);
        return tape.signs();
    }

    public int griddle() {
        int fault = reader.readGriddle(draft);
        if (fault == 0) {
            Griddle old = hot;
            hot = draft;
            draft = old;
            stacks.learn(hot);
            beginAnew();
        }
        return fault;
    }

    public int plan() {
        int fault = reader.readPlan(stacks.cakes());
        if (fault == 0) {
            lines.become(reader.read(), reader.readSize());
        }
        return fault;
    }

    public int wish() {
        int fault = reader.readWish(hot);
        if (fault == 0) {
            wished = stacks.stackOf(reader.read(), reader.readUps());
        }
        return fault;
    }

    public int cake(int cake, int what) {
        if (cake < 0 || cake >= stacks.cakes()) {
            return NONE;
        }
        switch (what) {
            case 0: return hot.kindOf(cake);
            case 1: return hot.widthOf(cake);
            case 2: return stacks.placeOf(now.stack(), cake);
            case 3: return stacks.isUp(now.stack(), cake) ? 1 : 0;
            default: return NONE;
        }
    }

    public int there(int place) {
        return stacks.cakeIn(now.stack(), place);
    }

    public int turn(int many) {
        int stack = now.stack();
        if (!stacks.isOpen(stack, many)) {
            return NONE;
        }
        int price = stacks.priceOf(stack, many);
        now.move(stacks.turned(stack, many), 1, price);
        keepForUndo(many, price);
        return price;
    }

    public boolean undo() {
        if (undoable <= 0) {
            return false;
        }
        undoable--;
        // turning the same cakes once more lays them as they lay, whatever bars say
        int before = stacks.turned(now.stack(), at(undoTurns, undoable));
        now.move(before, -1, -at(undoCosts, undoable));
        return true;
    }

    public boolean can(int many) {
        return stacks.isOpen(now.stack(), many);
    }

    public int cost(int many) {
        return isTurn(many) ? stacks.priceOf(now.stack(), many) : NONE;
    }

    public boolean served() {
        return now.stack() == stacks.goal();
    }

    public int judged(int what) {
        if (what < 0 || what > 2) {
            return OTHERS;
        }
        return lines.judge(stacks, what);
    }

    public int least() {
        return servedSteps().turnsOf(now.stack());
    }

    public int row(int i) {
        Steps steps = servedSteps();
        int stack = now.stack();
        if (i < 0 || i >= steps.turnsOf(stack)) {
            return NONE;
        }
        for (int j = 0; j < i; j++) {
            stack = stacks.turned(stack, steps.firstTurn(stack));
        }
        return steps.firstTurn(stack);
    }

    public int ways() {
        return servedSteps().rowsOf(now.stack());
    }

    public int cheap() {
        bills.learn();
        return bills.sumOf(now.stack());
    }

    public int bill(int i) {
        bills.learn();
        // each turn costs something, so no bill comes to a stack twice
        if (i < 0 || i >= MOST_STACKS) {
            return NONE;
        }
        int stack = now.stack();
        for (int j = 0; j < i && bills.sumOf(stack) > 0; j++) {
            stack = stacks.turned(stack, bills.firstTurn(stack));
        }
        return bills.firstTurn(stack);
    }

    public int without(int many) {
        return isTurn(many) ? leastWithout(many) : NONE;
    }

    public int needed() {
        if (servedSteps().turnsOf(now.stack()) == NONE) {
            return NONE;
        }
        int bits = 0;
        for (int many = 1; many <= stacks.cakes(); many++) {
            if (leastWithout(many) == NONE) {
                bits |= 1 << (many - 1);
            }
        }
        return bits;
    }

    public int far() {
        return wishSteps().turnsOf(now.stack());
    }

    public int toward() {
        return wishSteps().firstTurn(now.stack());
    }

    public int never() {
        return servedSteps().stacksAt(NONE);
    }

    public int hard(int what) {
        Steps steps = servedSteps();
        switch (what) {
            case 0: return steps.most();
            case 1: return steps.stacksAt(steps.most());
            default: return NONE;
        }
    }

    public int spread(int turns) {
        return turns < 0 || turns > MOST_ASKED ? NONE : servedSteps().stacksAt(turns);
    }

    public int dear() {
        bills.learn();
        return bills.mostSum();
    }

    public int rim() {
        return nowSteps().most();
    }

    public int nth() {
        return stacks.numberOf(now.stack());
    }

    public int ring(int many, int other) {
        if (!isTurn(many) || !isTurn(other)) {
            return NONE;
        }
        int stack = now.stack();
        for (int turns = 1; turns <= 2 * MOST_ASKED; turns++) {
            int next = turns % 2 == 1 ? many : other;
            if (!stacks.isOpen(stack, next)) {
                return NONE;
            }
            stack = stacks.turned(stack, next);
            if (turns % 2 == 0 && stack == now.stack()) {
                return turns;
            }
        }
        return NONE;
    }

    public int pairs() {
        return stacks.pairsIn(now.stack());
    }

    public int reached(int turns) {
        return turns < 0 || turns > MOST_ASKED ? NONE : nowSteps().stacksWithin(turns);
    }

    public int gaps() {
        return stacks.gapsIn(now.stack());
    }

    public boolean sharp() {
        return servedSteps().turnsOf(now.stack()) == stacks.gapsIn(now.stack());
    }

    public int again() {
        int stack = now.stack();
        for (int times = 1; times <= MOST_ASKED; times++) {
            stack = lines.doneWhole(stacks, stack);
            if (stack == NONE) {
                return NONE;
            }
            if (stack == now.stack()) {
                return times;
            }
        }
        return NONE;
    }

    public int spare() {
        int end = lines.doneFrom(stacks, stacks.told(), NONE);
        int spare = 0;
        for (int line = 0; line < lines.size(); line++) {
            if (lines.doneFrom(stacks, stacks.told(), line) == end) {
                spare++;
            }
        }
        return spare;
    }

    public boolean ends() {
        return lines.doneFrom(stacks, now.stack(), NONE) == stacks.goal();
    }

    public int wins(int what) {
        cooks.learn();
        switch (what) {
            case 0: return cooks.winnerOf(now.stack());
            case 1: return cooks.turnsOf(now.stack());
            default: return OTHERS;
        }
    }

    public int his() {
        cooks.learn();
        return cooks.bestTurn(now.stack());
    }

    public boolean see(int place, int cake, boolean is) {
        return isPlace(place) && cake >= 0 && cake < stacks.cakes() && now.addClue(place, cake, is);
    }

    public boolean lies(int place, boolean up) {
        return isPlace(place) && now.addClue(place, NONE, up);
    }

    public int fit() {
        int fitting = 0;
        for (int stack = 0; stack < stacks.all(); stack++) {
            if (now.fits(stacks, stack)) {
                fitting++;
            }
        }
        return fitting;
    }

    public int look() {
        int best = NONE;
        int least = fillTally();
        for (int place = 0; place < stacks.cakes(); place++) {
            int most = stacks.mostInTally(place);
            if (most < least) {
                least = most;
                best = place;
            }
        }
        return best;
    }

    public int chance(int times, boolean ever) {
        int choices = stacks.cakes();
        if (times < 1 || times > MOST_TIMES || choices < 1) {
            return NONE;
        }
        long all = 1;
        stacks.startCounts(now.stack());
        for (int i = 0; i < times; i++) {
            all *= choices;
            stacks.spreadCounts(ever);
        }
        return all > 0 ? (int) (stacks.countOf(stacks.goal()) * 1000000L / all) : NONE;
    }

    public int rests(int lose, int turns, int waits, int what) throws NoSuchElementException {
        if (!isDigit(lose) || !isDigit(turns) || !isDigit(waits) || what < NONE) {
            throw new NoSuchElementException();
        }
        int found = 0;
        for (int both = 0; both < 4; both++) {
            int first = both / 2;
            int other = both % 2;
            boolean rest = gain(first, other, lose, turns, waits) >= gain(1 - first, other, lose, turns, waits)
                && gain(other, first, lose, turns, waits) >= gain(1 - other, first, lose, turns, waits);
            if (rest && found == what) {
                return both;
            }
            found += rest ? 1 : 0;
        }
        if (what != NONE) {
            throw new NoSuchElementException();
        }
        return found;
    }

    public int mornings(int seed, int turns, int what) {
        if (seed < 0 || seed > MOST_SEED || turns < 1 || turns > MOST_DRAWS || what < 0 || what > 2) {
            return OTHERS;
        }
        int stack = now.stack();
        int able = 0;
        int spent = 0;
        int servedBehind = stack == stacks.goal() ? 0 : NONE;
        long state = seed;
        for (int draw = 1; draw <= turns && stacks.cakes() > 0; draw++) {
            state = nextState(state);
            int many = drawBelow(state, stacks.cakes()) + 1;
            if (stacks.isOpen(stack, many)) {
                able++;
                spent += stacks.priceOf(stack, many);
                stack = stacks.turned(stack, many);
            }
            if (servedBehind == NONE && stack == stacks.goal()) {
                servedBehind = draw;
            }
        }
        switch (what) {
            case 0: return able;
            case 1: return spent;
            default: return servedBehind;
        }
    }

    public boolean mark(int mark, boolean back) {
        if (mark < 0 || mark >= marks.length) {
            return false;
        }
        Moment marked = marks[mark];
        if (!back) {
            marked.become(now);
            return true;
        }
        if (!marked.isLaid()) {
            return false;
        }
        now.become(marked);
        undoable = 0;
        return true;
    }

    public int count(int what) {
        switch (what) {
            case 0: return stacks.cakes();
            case 1: return stacks.all();
            case 2: return now.turns();
            case 3: return now.spent();
            case 4: return openBits();
            case 5: return lines.size();
            case 6: return wished == NONE ? 0 : stacks.cakes();
            case 7: return now.seen();
            case 8: return undoable;
            case 9: return tape.signs();
            default: return NONE;
        }
    }

    /** Reads row[i]; NONE beyond the row. */
    private static int at(int[] row, int i) {
        return i >= 0 && i < row.length ? row[i] : NONE;
    }

    private static void put(int[] row, int i, int value) {
        if (i >= 0 && i < row.length) {
            row[i] = value;
        }
    }

    private static boolean isDigit(int number) {
        return number >= 0 && number <= 9;
    }

    private static int gain(int mine, int others, int lose, int turns, int waits) {
        if (mine == 1) {
            return others == 1 ? -lose : turns;
        }
        return others == 1 ? waits : 0;
    }

    private static long nextState(long state) {
        return (state * 1103515245L + 12345L) % 2147483648L;
    }

    private static int drawBelow(long state, int below) {
        return below > 0 ? (int) (state / 65536L % below) : 0;
    }

    private boolean isTurn(int many) {
        return many >= 1 && many <= stacks.cakes();
    }

    private boolean isPlace(int place) {
        return place >= 0 && place < stacks.cakes();
    }

    private void beginAnew() {
        lines.clear();
        wished = NONE;
        now.begin(stacks.told());
        undoable = 0;
        for (int i = 0; i < marks.length; i++) {
            marks[i].clear();
        }
        toServed.forget();
        for (int i = 0; i < withouts.length; i++) {
            withouts[i].forget();
        }
        toWish.forget();
        fromNow.forget();
        bills.forget();
        cooks.forget();
    }

    private void keepForUndo(int many, int price) {
        if (undoable >= MOST_UNDO) {
            for (int i = 1; i < undoTurns.length && i < undoCosts.length; i++) {
                undoTurns[i - 1] = undoTurns[i];
                undoCosts[i - 1] = undoCosts[i];
            }
            undoable = MOST_UNDO - 1;
        }
        put(undoTurns, undoable, many);
        put(undoCosts, undoable, price);
        undoable++;
    }

    private Steps servedSteps() {
        toServed.learn(stacks.goal());
        return toServed;
    }

    private Steps wishSteps() {
        toWish.learn(wished);
        return toWish;
    }

    private Steps nowSteps() {
        fromNow.learn(now.stack());
        return fromNow;
    }

    private int leastWithout(int many) {
        int i = many - 1;
        if (i < 0 || i >= withouts.length) {
            return NONE;
        }
        withouts[i].learn(stacks.goal());
        return withouts[i].turnsOf(now.stack());
    }

    private int openBits() {
        int bits = 0;
        for (int many = 1; many <= stacks.cakes(); many++) {
            if (stacks.isOpen(now.stack(), many)) {
                bits |= 1 << (many - 1);
            }
        }
        return bits;
    }

    /** Tells how many stacks fit. */
    private int fillTally() {
        int fitting = 0;
        stacks.clearTally();
        for (int stack = 0; stack < stacks.all(); stack++) {
            if (now.fits(stacks, stack)) {
                fitting++;
                stacks.addToTally(stack);
            }
        }
        return fitting;
    }

    /** The words with a meaning; only the facts among them may be names too. */
    private enum Word {
        OTHER("", true, 0),
        CAKE("cake", false, 0),
        WIDE("wide", false, 0),
        BARS("bars", false, 0),
        COSTS("costs", false, 0),
        TURN("turn", false, 0),
        DOWN("down", false, 0),
        UP("up", false, 1),
        PLAIN("plain", false, HotCakes.PLAIN),
        BROWNED("browned", false, HotCakes.BROWNED),
        HEAVY("heavy", false, HotCakes.HEAVY),
        GLAZED("glazed", false, HotCakes.GLAZED),
        NOT("not", false, HotCakes.NOT),
        AND("and", false, HotCakes.AND),
        OR("or", false, HotCakes.OR),
        TAKE("take", true, HotCakes.TAKE),
        LEFT("left", true, HotCakes.LEFT),
        WEIGHT("weight", true, HotCakes.WEIGHT),
        BROWN("brown", true, HotCakes.BROWN);

        private final long letters;
        private final boolean mayName;
        private final int sense;

        Word(String text, boolean mayName, int sense) {
            long packed = 0;
            for (int i = 0; i < text.length(); i++) {
                packed = withLetter(packed, text.charAt(i));
            }
            this.letters = packed;
            this.mayName = mayName;
            this.sense = sense;
        }

        /** Eight letters of five bits fit in a long, so two words are alike if their numbers are. */
        static long withLetter(long packed, char letter) {
            return packed * 32 + (letter - 'a' + 1);
        }

        static Word of(long letters) {
            for (int i = 0; i < WORDS.length; i++) {
                if (WORDS[i].letters == letters) {
                    return WORDS[i];
                }
            }
            return OTHER;
        }

        boolean mayBeName() {
            return mayName;
        }

        int sense() {
            return sense;
        }

        boolean isKind() {
            return this == PLAIN || this == BROWNED || this == HEAVY || this == GLAZED;
        }

        boolean isLie() {
            return this == UP || this == DOWN;
        }

        boolean isFact() {
            return this == TAKE || this == LEFT || this == WEIGHT || this == BROWN;
        }
    }

    /** The tape, and the token that is read on it just now. */
    private static final class Tape {
        private final char[] signs = new char[MOST_SIGNS];
        private int size;
        private int place;
        private int behind;
        private char type = END;
        private int number;
        private long letters;
        private Word word = Word.OTHER;

        void addBytes(long bytes) {
            for (int shift = 56; shift >= 0; shift -= 8) {
                addSign((int) (bytes >>> shift & 255));
            }
        }

        private void addSign(int sign) {
            boolean fits = sign == 10 || sign >= 32 && sign <= 126;
            if (fits && size >= 0 && size < signs.length) {
                signs[size] = (char) sign;
                size++;
            }
        }

        int signs() {
            return size;
        }

        void clear() {
            size = 0;
        }

        void rewind() {
            behind = 0;
            step();
        }

        /** Goes on to the next token. */
        void step() {
            place = behind;
            while (place < size && isBlank(signAt(place))) {
                place++;
            }
            behind = place;
            word = Word.OTHER;
            char sign = signAt(place);
            if (place >= size) {
                type = END;
            } else if (isLetter(sign)) {
                readWord();
            } else if (isFigure(sign)) {
                readNumber();
            } else {
                type = "()<=+-*;".indexOf(sign) >= 0 ? sign : STRANGE;
                behind = place + 1;
            }
        }

        private void readWord() {
            letters = 0;
            while (behind < size && isLetter(signAt(behind))) {
                letters = Word.withLetter(letters, signAt(behind));
                behind++;
            }
            boolean tooLong = behind - place > MOST_LETTERS;
            type = tooLong ? STRANGE : WORD;
            word = tooLong ? Word.OTHER : Word.of(letters);
        }

        private void readNumber() {
            number = 0;
            while (behind < size && isFigure(signAt(behind))) {
                number = number * 10 + (signAt(behind) - '0');
                behind++;
            }
            type = behind - place > MOST_DIGITS ? STRANGE : NUMBER;
        }

        private char signAt(int i) {
            return i >= 0 && i < size && i < signs.length ? signs[i] : ' ';
        }

        private static boolean isBlank(char sign) {
            return sign == 10 || sign == ' ';
        }

        private static boolean isLetter(char sign) {
            return sign >= 'a' && sign <= 'z';
        }

        private static boolean isFigure(char sign) {
            return sign >= '0' && sign <= '9';
        }

        boolean is(char asked) {
            return type == asked;
        }

        boolean isWord(Word asked) {
            return type == WORD && word == asked;
        }

        boolean isName() {
            return type == WORD && word.mayBeName();
        }

        Word word() {
            return word;
        }

        int number() {
            return number;
        }

        long letters() {
            return letters;
        }

        int place() {
            return place;
        }
    }

    /** What bars or costs: steps that stand behind what they are done with. */
    private static final class Law {
        private final int untold;
        private final int[] steps = new int[MOST_SIGNS];
        private final int[] values = new int[MOST_VALUES];
        private int size;
        private int depth;
        private boolean told;

        Law(int untold) {
            this.untold = untold;
        }

        void clear() {
            size = 0;
            told = false;
        }

        void tell() {
            told = true;
        }

        boolean isTold() {
            return told;
        }

        void add(int step) {
            if (size < steps.length) {
                put(steps, size, step);
                size++;
            }
        }

        int value(int take, int left, int weight, int brown) {
            if (!told) {
                return untold;
            }
            depth = 0;
            for (int i = 0; i < size; i++) {
                int step = at(steps, i);
                switch (step) {
                    case TAKE: push(take); break;
                    case LEFT: push(left); break;
                    case WEIGHT: push(weight); break;
                    case BROWN: push(brown); break;
                    case NOT: push(pop() == 0 ? 1 : 0); break;
                    default:
                        if (step >= 0) {
                            push(step);
                        } else {
                            int second = pop();
                            push(joined(step, pop(), second));
                        }
                }
            }
            return pop();
        }

        private static int joined(int step, int first, int second) {
            switch (step) {
                case AND: return first != 0 && second != 0 ? 1 : 0;
                case OR: return first != 0 || second != 0 ? 1 : 0;
                case LESS: return first < second ? 1 : 0;
                case SAME: return first == second ? 1 : 0;
                case PLUS: return first + second;
                case MINUS: return first - second;
                default: return first * second;
            }
        }

        private void push(int value) {
            if (depth < values.length) {
                put(values, depth, value);
                depth++;
            }
        }

        private int pop() {
            if (depth > 0) {
                depth--;
                return at(values, depth);
            }
            return 0;
        }
    }

    /** The cakes as they were told, from the top down, and the laws. */
    private static final class Griddle {
        private int size;
        private final long[] names = new long[MOST_CAKES];
        private final int[] kinds = new int[MOST_CAKES];
        private final int[] widths = new int[MOST_CAKES];
        private int ups;
        private final Law bars = new Law(0);
        private final Law costs = new Law(1);

        void clear() {
            size = 0;
            ups = 0;
            bars.clear();
            costs.clear();
        }

        void add(long name, int kind, int width, boolean up) {
            if (size < 0 || size >= names.length) {
                return;
            }
            names[size] = name;
            put(kinds, size, kind);
            put(widths, size, width);
            ups |= up ? 1 << size : 0;
            size++;
        }

        int find(long name) {
            for (int i = 0; i < size && i < names.length; i++) {
                if (names[i] == name) {
                    return i;
                }
            }
            return NONE;
        }

        boolean hasWidth(int width) {
            for (int i = 0; i < size; i++) {
                if (widthOf(i) == width) {
                    return true;
                }
            }
            return false;
        }

        int size() {
            return size;
        }

        /** The cakes that were told to lie up, as bits, those without a side too. */
        int ups() {
            return ups;
        }

        int kindOf(int cake) {
            return at(kinds, cake);
        }

        int widthOf(int cake) {
            return at(widths, cake);
        }

        boolean hasSide(int cake) {
            int kind = kindOf(cake);
            return kind == BROWNED || kind == GLAZED;
        }

        int weightOf(int cake) {
            return kindOf(cake) == HEAVY ? 2 * widthOf(cake) : widthOf(cake);
        }

        /** How many cakes are less wide. */
        int rankOf(int cake) {
            int rank = 0;
            for (int i = 0; i < size; i++) {
                if (widthOf(i) < widthOf(cake)) {
                    rank++;
                }
            }
            return rank;
        }

        Law bars() {
            return bars;
        }

        Law costs() {
            return costs;
        }
    }

    /** Reads the tape; what is wrong first stays the fault. */
    private static final class Reader {
        private final Tape tape;
        private int fault;
        private final int[] read = new int[MOST_LINES];
        private int readSize;
        private int readUps;

        Reader(Tape tape) {
            this.tape = tape;
        }

        int[] read() {
            return read;
        }

        int readSize() {
            return readSize;
        }

        int readUps() {
            return readUps;
        }

        int readGriddle(Griddle draft) {
            draft.clear();
            begin();
            for (int i = 0; i < MOST_SIGNS && fault == 0 && !tape.is(END); i++) {
                if (tape.isWord(Word.CAKE)) {
                    readCake(draft);
                } else if (tape.isWord(Word.BARS)) {
                    readLaw(draft.bars());
                } else if (tape.isWord(Word.COSTS)) {
                    readLaw(draft.costs());
                } else {
                    wrong(ALIEN);
                }
            }
            return finish();
        }

        int readPlan(int cakes) {
            begin();
            for (int i = 0; i < MOST_SIGNS && fault == 0 && !tape.is(END); i++) {
                readTurn(cakes);
            }
            return finish();
        }

        int readWish(Griddle griddle) {
            begin();
            int told = 0;
            for (int i = 0; i < griddle.size() && fault == 0; i++) {
                told |= readWished(griddle, told);
            }
            if (!tape.is(END)) {
                wrong(ALIEN);
            }
            return finish();
        }

        private void begin() {
            fault = 0;
            readSize = 0;
            readUps = 0;
            tape.rewind();
        }

        private int finish() {
            tape.clear();
            return fault;
        }

        private boolean wrong(int kind) {
            if (fault == 0) {
                fault = kind + 16 * tape.place();
            }
            return false;
        }

        private boolean skipSign(char sign) {
            if (!tape.is(sign)) {
                return wrong(ALIEN);
            }
            tape.step();
            return true;
        }

        private void keep(int number) {
            put(read, readSize, number);
            readSize++;
        }

        private boolean readCake(Griddle draft) {
            if (draft.size() >= MOST_CAKES) {
                return wrong(TOO_MANY);
            }
            tape.step();
            if (!tape.isName()) {
                return wrong(ALIEN);
            }
            if (draft.find(tape.letters()) != NONE) {
                return wrong(TWICE);
            }
            long name = tape.letters();
            tape.step();
            if (!tape.word().isKind()) {
                return wrong(ALIEN);
            }
            int kind = tape.word().sense();
            tape.step();
            if (!readWidth(draft)) {
                return false;
            }
            int width = tape.number();
            tape.step();
            if (!tape.word().isLie()) {
                return wrong(ALIEN);
            }
            draft.add(name, kind, width, tape.word() == Word.UP);
            tape.step();
            return skipSign(';');
        }

        /** Stays on the number, which the caller takes. */
        private boolean readWidth(Griddle draft) {
            if (!tape.isWord(Word.WIDE)) {
                return wrong(ALIEN);
            }
            tape.step();
            if (!tape.is(NUMBER)) {
                return wrong(ALIEN);
            }
            if (tape.number() < 1 || tape.number() > WIDEST) {
                return wrong(UNFIT);
            }
            return !draft.hasWidth(tape.number()) || wrong(TWICE);
        }

        private boolean readTurn(int cakes) {
            if (!tape.isWord(Word.TURN)) {
                return wrong(ALIEN);
            }
            if (readSize >= MOST_LINES) {
                return wrong(TOO_MANY);
            }
            tape.step();
            if (!tape.is(NUMBER)) {
                return wrong(ALIEN);
            }
            if (tape.number() < 1 || tape.number() > cakes) {
                return wrong(UNFIT);
            }
            keep(tape.number());
            tape.step();
            return skipSign(';');
        }

        /** Tells the cake that it read, as a bit. */
        private int readWished(Griddle griddle, int told) {
            if (!tape.isName()) {
                wrong(ALIEN);
                return 0;
            }
            int cake = griddle.find(tape.letters());
            if (cake == NONE) {
                wrong(UNKNOWN);
                return 0;
            }
            if ((told >> cake & 1) == 1) {
                wrong(TWICE);
                return 0;
            }
            tape.step();
            if (!tape.word().isLie()) {
                wrong(ALIEN);
                return 0;
            }
            keep(cake);
            readUps |= tape.word().sense() << cake;
            tape.step();
            return 1 << cake;
        }

        private boolean readLaw(Law law) {
            if (law.isTold()) {
                return wrong(TWICE);
            }
            law.tell();
            tape.step();
            return readWhole(law, 0) && skipSign(';');
        }

        private boolean readWhole(Law law, int within) {
            if (!readTest(law, within)) {
                return false;
            }
            for (int i = 0; i < MOST_SIGNS && (tape.isWord(Word.AND) || tape.isWord(Word.OR)); i++) {
                int step = tape.word().sense();
                tape.step();
                if (!readTest(law, within)) {
                    return false;
                }
                law.add(step);
            }
            return true;
        }

        private boolean readTest(Law law, int within) {
            if (!readSum(law, within)) {
                return false;
            }
            if (!tape.is('<') && !tape.is('=')) {
                return true;
            }
            int step = tape.is('<') ? LESS : SAME;
            tape.step();
            if (!readSum(law, within)) {
                return false;
            }
            law.add(step);
            return true;
        }

        private boolean readSum(Law law, int within) {
            if (!readProduct(law, within)) {
                return false;
            }
            for (int i = 0; i < MOST_SIGNS && (tape.is('+') || tape.is('-')); i++) {
                int step = tape.is('+') ? PLUS : MINUS;
                tape.step();
                if (!readProduct(law, within)) {
                    return false;
                }
                law.add(step);
            }
            return true;
        }

        private boolean readProduct(Law law, int within) {
            if (!readPart(law, within)) {
                return false;
            }
            for (int i = 0; i < MOST_SIGNS && tape.is('*'); i++) {
                tape.step();
                if (!readPart(law, within)) {
                    return false;
                }
                law.add(TIMES);
            }
            return true;
        }

        private boolean readPart(Law law, int within) {
            boolean not = tape.isWord(Word.NOT);
            boolean opened = tape.is('(');
            if (!not && !opened && !tape.is(NUMBER) && !tape.word().isFact()) {
                return wrong(ALIEN);
            }
            if (within >= MOST_WITHIN) {
                return wrong(TOO_MANY);
            }
            if (opened) {
                tape.step();
                return readWhole(law, within + 1) && skipSign(')');
            }
            if (!not) {
                law.add(tape.is(NUMBER) ? tape.number() : tape.word().sense());
                tape.step();
                return true;
            }
            tape.step();
            if (!readPart(law, within + 1)) {
                return false;
            }
            law.add(NOT);
            return true;
        }
    }

    /**
     * All stacks, each known by a number: that of its order, then a bit for each cake that has a side.
     * What a turn does is kept by order and turn alone, what it costs by the set of cakes and how many are up.
     */
    private static final class Stacks {
        private Griddle hot;
        private int cakes;
        private int sides;
        private int orders;
        private int goal;
        private final int[] sideBits = new int[MOST_CAKES];
        private final int[] cakeRow = new int[MOST_CAKES];
        private final int[] cakesByPlace = new int[MOST_ORDERS * MOST_CAKES];
        private final int[] turnedOrders = new int[MOST_ORDERS * MOST_CAKES];
        private final int[] turnedCakes = new int[MOST_ORDERS * MOST_CAKES];
        private final int[] turnedSides = new int[MOST_ORDERS * MOST_CAKES];
        private final int[] stuck = new int[MOST_ORDERS * MOST_CAKES];
        private final int[] barred = new int[CAKE_SETS * (MOST_CAKES + 1)];
        private final int[] prices = new int[CAKE_SETS * (MOST_CAKES + 1)];
        private final int[] queue = new int[MOST_STACKS];
        private int[] counts = new int[MOST_STACKS];
        private int[] nextCounts = new int[MOST_STACKS];
        private final int[] tally = new int[MOST_CAKES * MOST_CAKES * 2];

        Stacks(Griddle griddle) {
            learn(griddle);
        }

        void learn(Griddle told) {
            hot = told;
            cakes = told.size();
            sides = 0;
            for (int cake = 0; cake < cakes; cake++) {
                boolean side = told.hasSide(cake);
                put(sideBits, cake, side ? 1 << sides : 0);
                sides += side ? 1 : 0;
            }
            orders = at(FACTORIALS, cakes);
            for (int order = 0; order < orders; order++) {
                learnOrder(order);
            }
            for (int order = 0; order < orders; order++) {
                for (int many = 1; many <= cakes; many++) {
                    learnTurn(order, many);
                }
            }
            for (int set = 1; set < 1 << cakes; set++) {
                learnLaws(set);
            }
            for (int cake = 0; cake < cakes; cake++) {
                put(cakeRow, told.rankOf(cake), cake);
            }
            goal = stackOf(cakeRow, 0);
        }

        private void learnOrder(int order) {
            int free = (1 << cakes) - 1;
            int rest = order;
            for (int place = 0; place < cakes; place++) {
                int block = at(FACTORIALS, cakes - 1 - place);
                int skip = block > 0 ? rest / block : 0;
                rest -= skip * block;
                int cake = cakeBehind(free, skip);
                free &= ~(1 << cake);
                put(cakesByPlace, order * MOST_CAKES + place, cake);
            }
        }

        /** The least cake of a set, but for so many still lesser ones. */
        private int cakeBehind(int set, int skip) {
            int rest = skip;
            for (int cake = 0; cake < cakes; cake++) {
                boolean inSet = (set >> cake & 1) == 1;
                if (inSet && rest == 0) {
                    return cake;
                }
                rest -= inSet ? 1 : 0;
            }
            return 0;
        }

        private void learnTurn(int order, int many) {
            int set = 0;
            int bits = 0;
            for (int place = 0; place < cakes; place++) {
                int from = place < many ? many - 1 - place : place;
                int cake = at(cakesByPlace, order * MOST_CAKES + from);
                put(cakeRow, place, cake);
                if (place < many) {
                    set |= 1 << cake;
                    bits |= at(sideBits, cake);
                }
            }
            int entry = order * MOST_CAKES + many - 1;
            put(turnedOrders, entry, orderOf(cakeRow));
            put(turnedCakes, entry, set);
            put(turnedSides, entry, bits);
            put(stuck, entry, many > 1 && hot.kindOf(at(cakeRow, 0)) == GLAZED ? 1 : 0);
        }

        private void learnLaws(int set) {
            int take = Integer.bitCount(set);
            int weight = 0;
            for (int cake = 0; cake < cakes; cake++) {
                weight += (set >> cake & 1) == 1 ? hot.weightOf(cake) : 0;
            }
            for (int brown = 0; brown <= take; brown++) {
                int entry = set * (MOST_CAKES + 1) + brown;
                int cost = hot.costs().value(take, cakes - take, weight, brown);
                put(barred, entry, hot.bars().value(take, cakes - take, weight, brown) != 0 ? 1 : 0);
                put(prices, entry, Math.max(1, Math.min(MOST_COST, cost)));
            }
        }

        int cakes() {
            return cakes;
        }

        int all() {
            return orders << sides;
        }

        /** The stack that is served. */
        int goal() {
            return goal;
        }

        int told() {
            for (int place = 0; place < cakes; place++) {
                put(cakeRow, place, place);
            }
            return stackOf(cakeRow, hot.ups());
        }

        int[] queue() {
            return queue;
        }

        /** The stack of the cakes in a row from the top down; ups are bits by cake. */
        int stackOf(int[] cakesDown, int ups) {
            int bits = 0;
            for (int cake = 0; cake < cakes; cake++) {
                bits |= (ups >> cake & 1) == 1 ? at(sideBits, cake) : 0;
            }
            return orderOf(cakesDown) << sides | bits;
        }

        private int orderOf(int[] cakesDown) {
            int order = 0;
            for (int place = 0; place < cakes; place++) {
                int lesser = 0;
                for (int below = place + 1; below < cakes; below++) {
                    lesser += at(cakesDown, below) < at(cakesDown, place) ? 1 : 0;
                }
                order += lesser * at(FACTORIALS, cakes - 1 - place);
            }
            return order;
        }

        int cakeIn(int stack, int place) {
            return place < 0 || place >= cakes ? NONE : at(cakesByPlace, (stack >> sides) * MOST_CAKES + place);
        }

        int placeOf(int stack, int cake) {
            for (int place = 0; place < cakes; place++) {
                if (cakeIn(stack, place) == cake) {
                    return place;
                }
            }
            return NONE;
        }

        boolean isUp(int stack, int cake) {
            return (sideBitsOf(stack) & at(sideBits, cake)) != 0;
        }

        private int sideBitsOf(int stack) {
            return stack & (1 << sides) - 1;
        }

        private int turnEntry(int stack, int many) {
            return (stack >> sides) * MOST_CAKES + many - 1;
        }

        private int lawEntry(int stack, int many) {
            int entry = turnEntry(stack, many);
            int brown = Integer.bitCount(sideBitsOf(stack) & at(turnedSides, entry));
            return at(turnedCakes, entry) * (MOST_CAKES + 1) + brown;
        }

        boolean isOpen(int stack, int many) {
            return many >= 1 && many <= cakes
                && at(stuck, turnEntry(stack, many)) == 0
                && at(barred, lawEntry(stack, many)) == 0;
        }

        int priceOf(int stack, int many) {
            return at(prices, lawEntry(stack, many));
        }

        int turned(int stack, int many) {
            if (many < 1 || many > cakes) {
                return stack;
            }
            int entry = turnEntry(stack, many);
            return at(turnedOrders, entry) << sides | sideBitsOf(stack) ^ at(turnedSides, entry);
        }

        int numberOf(int stack) {
            int number = stack >> sides;
            for (int place = 0; place < cakes; place++) {
                int cake = cakeIn(stack, place);
                if (hot.hasSide(cake)) {
                    number = number * 2 + (isUp(stack, cake) ? 1 : 0);
                }
            }
            return number;
        }

        int pairsIn(int stack) {
            int pairs = 0;
            for (int place = 0; place < cakes; place++) {
                for (int below = place + 1; below < cakes; below++) {
                    int upper = hot.widthOf(cakeIn(stack, place));
                    pairs += hot.widthOf(cakeIn(stack, below)) < upper ? 1 : 0;
                }
            }
            return pairs;
        }

        int gapsIn(int stack) {
            int gaps = 0;
            for (int place = 0; place < cakes; place++) {
                gaps += isGap(stack, place) ? 1 : 0;
            }
            return gaps;
        }

        private boolean isGap(int stack, int place) {
            int upper = cakeIn(stack, place);
            int rank = hot.rankOf(upper);
            if (place + 1 >= cakes) {
                return rank + 1 != cakes || !mayLie(stack, upper, false);
            }
            int lower = cakeIn(stack, place + 1);
            int below = hot.rankOf(lower);
            boolean up = below == rank - 1;
            boolean next = up || below == rank + 1;
            return !next || !mayLie(stack, upper, up) || !mayLie(stack, lower, up);
        }

        private boolean mayLie(int stack, int cake, boolean up) {
            return !hot.hasSide(cake) || isUp(stack, cake) == up;
        }

        /** From now on counts[s] is how many rows of choices lead to s, each made as often. */
        void startCounts(int stack) {
            Arrays.fill(counts, 0);
            put(counts, stack, 1);
        }

        void spreadCounts(boolean stayServed) {
            Arrays.fill(nextCounts, 0);
            for (int stack = 0; stack < all(); stack++) {
                int rows = at(counts, stack);
                for (int many = 1; rows > 0 && many <= cakes; many++) {
                    boolean moves = isOpen(stack, many) && !(stayServed && stack == goal);
                    int next = moves ? turned(stack, many) : stack;
                    put(nextCounts, next, at(nextCounts, next) + rows);
                }
            }
            int[] old = counts;
            counts = nextCounts;
            nextCounts = old;
        }

        int countOf(int stack) {
            return at(counts, stack);
        }

        /** A row that the asker uses as he likes till the next question. */
        int[] scratch() {
            return counts;
        }

        void clearTally() {
            Arrays.fill(tally, 0);
        }

        void addToTally(int stack) {
            for (int place = 0; place < cakes; place++) {
                int cake = cakeIn(stack, place);
                int entry = tallyEntry(place, cake, isUp(stack, cake));
                put(tally, entry, at(tally, entry) + 1);
            }
        }

        int mostInTally(int place) {
            int most = 0;
            for (int cake = 0; cake < cakes; cake++) {
                int down = at(tally, tallyEntry(place, cake, false));
                most = Math.max(most, Math.max(down, at(tally, tallyEntry(place, cake, true))));
            }
            return most;
        }

        private static int tallyEntry(int place, int cake, boolean up) {
            return (place * MOST_CAKES + cake) * 2 + (up ? 1 : 0);
        }
    }

    /** The fewest turns from each stack to one, or (not back) from one to each. */
    private static final class Steps {
        private final Stacks stacks;
        private final boolean back;
        private final int leftOut;
        private final int[] turns = new int[MOST_STACKS];
        private int origin = NONE;
        private boolean known;

        Steps(Stacks stacks, boolean back, int leftOut) {
            this.stacks = stacks;
            this.back = back;
            this.leftOut = leftOut;
        }

        void forget() {
            known = false;
        }

        /** No stack (NONE): it is never come to. */
        void learn(int asked) {
            if (known && asked == origin) {
                return;
            }
            known = true;
            origin = asked;
            Arrays.fill(turns, NONE);
            if (asked < 0 || asked >= stacks.all()) {
                return;
            }
            int[] queue = stacks.queue();
            put(turns, asked, 0);
            put(queue, 0, asked);
            int tail = 1;
            for (int head = 0; head < tail && head < queue.length; head++) {
                tail = learnRound(queue[head], tail);
            }
        }

        private int learnRound(int stack, int tail) {
            int[] queue = stacks.queue();
            int end = tail;
            for (int many = 1; many <= stacks.cakes(); many++) {
                int other = stacks.turned(stack, many);
                boolean fresh = many != leftOut && at(turns, other) == NONE;
                if (fresh && stacks.isOpen(back ? other : stack, many)) {
                    put(turns, other, at(turns, stack) + 1);
                    put(queue, end, other);
                    end++;
                }
            }
            return end;
        }

        int turnsOf(int stack) {
            return at(turns, stack);
        }

        /** The least turn by which it is one turn nearer. */
        int firstTurn(int stack) {
            int rest = at(turns, stack);
            for (int many = 1; rest > 0 && many <= stacks.cakes(); many++) {
                if (isNearer(stack, many)) {
                    return many;
                }
            }
            return NONE;
        }

        private boolean isNearer(int stack, int many) {
            return stacks.isOpen(stack, many) && at(turns, stacks.turned(stack, many)) == at(turns, stack) - 1;
        }

        /** How many shortest rows there are. */
        int rowsOf(int stack) {
            int rest = at(turns, stack);
            if (rest == NONE) {
                return 0;
            }
            int[] rows = stacks.scratch();
            Arrays.fill(rows, 0);
            put(rows, stack, 1);
            for (int left = rest; left > 0; left--) {
                for (int each = 0; each < stacks.all(); each++) {
                    if (at(turns, each) == left && at(rows, each) > 0) {
                        addRows(rows, each);
                    }
                }
            }
            return at(rows, origin);
        }

        private void addRows(int[] rows, int stack) {
            for (int many = 1; many <= stacks.cakes(); many++) {
                if (isNearer(stack, many)) {
                    int next = stacks.turned(stack, many);
                    long sum = (long) at(rows, next) + at(rows, stack);
                    put(rows, next, (int) Math.min(MOST_WAYS, sum));
                }
            }
        }

        int most() {
            int most = 0;
            for (int stack = 0; stack < stacks.all(); stack++) {
                most = Math.max(most, at(turns, stack));
            }
            return most;
        }

        int stacksAt(int asked) {
            int found = 0;
            for (int stack = 0; stack < stacks.all(); stack++) {
                found += at(turns, stack) == asked ? 1 : 0;
            }
            return found;
        }

        int stacksWithin(int asked) {
            int found = 0;
            for (int stack = 0; stack < stacks.all(); stack++) {
                found += at(turns, stack) >= 0 && at(turns, stack) <= asked ? 1 : 0;
            }
            return found;
        }
    }

    /** The least that it costs from each stack till it is served. */
    private static final class Bills {
        private final Stacks stacks;
        private final int[] sums = new int[MOST_STACKS];
        private boolean known;

        Bills(Stacks stacks) {
            this.stacks = stacks;
        }

        void forget() {
            known = false;
        }

        /** Goes up by sums: what is told at its own sum is the least, since each turn costs something. */
        void learn() {
            if (known) {
                return;
            }
            known = true;
            Arrays.fill(sums, NONE);
            put(sums, stacks.goal(), 0);
            int top = 0;
            for (int sum = 0; sum <= top && sum <= MOST_COST * MOST_STACKS; sum++) {
                for (int stack = 0; stack < stacks.all(); stack++) {
                    if (at(sums, stack) == sum) {
                        top = Math.max(top, learnBehind(stack, sum));
                    }
                }
            }
        }

        /** Tells the greatest sum that it wrote. */
        private int learnBehind(int stack, int sum) {
            int greatest = 0;
            for (int many = 1; many <= stacks.cakes(); many++) {
                int other = stacks.turned(stack, many);
                int found = sum + stacks.priceOf(other, many);
                boolean better = at(sums, other) == NONE || found < at(sums, other);
                if (better && stacks.isOpen(other, many)) {
                    put(sums, other, found);
                    greatest = Math.max(greatest, found);
                }
            }
            return greatest;
        }

        int sumOf(int stack) {
            return at(sums, stack);
        }

        int mostSum() {
            int most = 0;
            for (int stack = 0; stack < stacks.all(); stack++) {
                most = Math.max(most, at(sums, stack));
            }
            return most;
        }

        int firstTurn(int stack) {
            int sum = at(sums, stack);
            for (int many = 1; sum > 0 && many <= stacks.cakes(); many++) {
                int rest = at(sums, stacks.turned(stack, many));
                boolean onTheWay = rest != NONE && rest + stacks.priceOf(stack, many) == sum;
                if (onTheWay && stacks.isOpen(stack, many)) {
                    return many;
                }
            }
            return NONE;
        }
    }

    /**
     * Two cooks: behind how many turns it ends, from each stack (NONE: it never does).
     * Who is to turn when it has ended has lost, so he wins where this number is odd.
     */
    private static final class Cooks {
        private final Stacks stacks;
        private final int[] turns = new int[MOST_STACKS];
        private boolean known;

        Cooks(Stacks stacks) {
            this.stacks = stacks;
        }

        void forget() {
            known = false;
        }

        void learn() {
            if (known) {
                return;
            }
            known = true;
            Arrays.fill(turns, NONE);
            int[] queue = stacks.queue();
            int[] open = stacks.scratch();
            int tail = 0;
            for (int stack = 0; stack < stacks.all(); stack++) {
                put(open, stack, openTurns(stack));
                if (stack == stacks.goal() || at(open, stack) == 0) {
                    put(turns, stack, 0);
                    put(queue, tail, stack);
                    tail++;
                }
            }
            for (int head = 0; head < tail && head < queue.length; head++) {
                tail = learnRound(queue[head], tail);
            }
        }

        private int openTurns(int stack) {
            int open = 0;
            for (int many = 1; many <= stacks.cakes(); many++) {
                open += stacks.isOpen(stack, many) ? 1 : 0;
            }
            return open;
        }

        /** A stack is lost only when its last open turn is known to lead where the other one wins. */
        private int learnRound(int stack, int tail) {
            int[] queue = stacks.queue();
            int[] open = stacks.scratch();
            int end = tail;
            boolean lost = at(turns, stack) % 2 == 0;
            for (int many = 1; many <= stacks.cakes(); many++) {
                int before = stacks.turned(stack, many);
                if (at(turns, before) != NONE || !stacks.isOpen(before, many)) {
                    continue;
                }
                put(open, before, at(open, before) - 1);
                if (lost || at(open, before) == 0) {
                    put(turns, before, at(turns, stack) + 1);
                    put(queue, end, before);
                    end++;
                }
            }
            return end;
        }

        int turnsOf(int stack) {
            return at(turns, stack);
        }

        int winnerOf(int stack) {
            int ending = at(turns, stack);
            return ending == NONE ? 2 : ending % 2;
        }

        int bestTurn(int stack) {
            int ending = at(turns, stack);
            int wanted = ending == NONE ? NONE : ending - 1;
            for (int many = 1; ending != 0 && many <= stacks.cakes(); many++) {
                if (stacks.isOpen(stack, many) && at(turns, stacks.turned(stack, many)) == wanted) {
                    return many;
                }
            }
            return NONE;
        }
    }

    /** What a mark holds: the stack, its turns and what they cost, what is seen. */
    private static final class Moment {
        private boolean laid;
        private int stack;
        private int turns;
        private int spent;
        private int seen;
        private final int[] clues = new int[MOST_SEEN];

        void clear() {
            laid = false;
        }

        boolean isLaid() {
            return laid;
        }

        void begin(int told) {
            stack = told;
            turns = 0;
            spent = 0;
            seen = 0;
        }

        void become(Moment other) {
            laid = true;
            stack = other.stack;
            turns = other.turns;
            spent = other.spent;
            seen = other.seen;
            for (int i = 0; i < seen; i++) {
                put(clues, i, at(other.clues, i));
            }
        }

        void move(int next, int moreTurns, int moreSpent) {
            stack = next;
            turns += moreTurns;
            spent += moreSpent;
        }

        int stack() {
            return stack;
        }

        int turns() {
            return turns;
        }

        int spent() {
            return spent;
        }

        int seen() {
            return seen;
        }

        /** No cake: how what is there lies. */
        boolean addClue(int place, int cake, boolean so) {
            if (seen >= MOST_SEEN) {
                return false;
            }
            put(clues, seen, (place * 8 + cake + 1) * 2 + (so ? 1 : 0));
            seen++;
            return true;
        }

        boolean fits(Stacks stacks, int other) {
            for (int i = 0; i < seen; i++) {
                if (!holds(stacks, other, at(clues, i))) {
                    return false;
                }
            }
            return true;
        }

        private static boolean holds(Stacks stacks, int other, int clue) {
            int there = stacks.cakeIn(other, clue >> 4);
            int cake = (clue >> 1 & 7) - 1;
            boolean so = (clue & 1) == 1;
            return (cake == NONE ? stacks.isUp(other, there) : there == cake) == so;
        }
    }

    /** The plan. */
    private static final class Lines {
        private final int[] turns = new int[MOST_LINES];
        private int size;

        void clear() {
            size = 0;
        }

        void become(int[] told, int toldSize) {
            size = Math.min(toldSize, MOST_LINES);
            for (int i = 0; i < size; i++) {
                put(turns, i, at(told, i));
            }
        }

        int size() {
            return size;
        }

        /** Where it ends; lines that can't be are left out, and so is the line that is told. */
        int doneFrom(Stacks stacks, int start, int leftOut) {
            int stack = start;
            for (int line = 0; line < size; line++) {
                int many = at(turns, line);
                if (line != leftOut && stacks.isOpen(stack, many)) {
                    stack = stacks.turned(stack, many);
                }
            }
            return stack;
        }

        /** Where it ends; NONE if a line can't be. */
        int doneWhole(Stacks stacks, int start) {
            int stack = start;
            for (int line = 0; line < size; line++) {
                int many = at(turns, line);
                if (!stacks.isOpen(stack, many)) {
                    return NONE;
                }
                stack = stacks.turned(stack, many);
            }
            return stack;
        }

        int judge(Stacks stacks, int what) {
            int stack = stacks.told();
            int firstBarred = NONE;
            int firstServed = NONE;
            int spent = 0;
            for (int line = 0; line < size; line++) {
                int many = at(turns, line);
                if (stacks.isOpen(stack, many)) {
                    spent += stacks.priceOf(stack, many);
                    stack = stacks.turned(stack, many);
                } else if (firstBarred == NONE) {
                    firstBarred = line;
                }
                if (firstServed == NONE && stack == stacks.goal()) {
                    firstServed = line;
                }
            }
            switch (what) {
                case 0: return firstBarred;
                case 1: return firstServed;
                default: return spent;
            }
        }
    }
}
