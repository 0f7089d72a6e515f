/**
 * A generator of compilers by attributes: a grammar reads a text with the cheapest repair, and the
 * attributes of the nodes of its tree are found by equations, kept, and dropped when they are touched.
 *
 * All rows are made in constructors and used again: no call makes anything but an exception.
 */
public final class AttribArbor {
    public static final int NONE = -1, CYCLE = -2, CONFLICT = -3, REFERENCE = 1000;

    private static final int NONTERMINALS = 4, ASPECTS = 4, LETTER_KINDS = 6, FIRST_LETTER = 97;
    private static final int MOST_PRODUCTIONS = 10, MOST_SYMBOLS = 3, MOST_FORWARDS = 3;
    private static final int MOST_ATTRIBUTES = 6, MOST_EQUATIONS = 30, MOST_STEPS = 8;
    private static final int MOST_LETTERS = 12, MOST_NODES = 30, MOST_ROUNDS = 30;
    private static final int SLOTS = MOST_NODES * MOST_ATTRIBUTES;

    private static final int UP = 0, DOWN = 1, GATHERED = 2, RING = 3, ATTRIBUTE_KINDS = 4;

    private static final int NUMBER = 0, OWN = 1, CHILD = 2, LETTER = 3, PUT = 4, SELF = 5, AT = 6, OF = 7;
    private static final int ADD = 8, MUL = 9, MAX = 10, OR = 11, SAME = 12, CHOOSE = 13, KIND = 14;
    private static final int STEP_KINDS = 15;

    private static final int ITSELF = -1, CONTRIBUTION = -2, NOWHERE = -9;

    // What a step answers when no value is there yet: another attribute has to be found first, or
    // another step of the expression has to be looked at. Both lie below all values.
    private static final int WAIT = -8, GOING = -7;

    // Nodes are the bits 0 to 29 of what a finding hangs on; this one stands for all of them.
    private static final int ALL_NODES = 1 << 30;

    private final Grammar grammar;
    private final Equation draft;
    private final Equations equations;
    private final TreeReader reader;
    private final Tree tree;
    private final Tree fresh;
    private final Findings kept;
    private final Findings scratch;
    private final Finder finder;
    private final Rings rings;
    private final HangGraph graph;

    public AttribArbor() {
        grammar = new Grammar();
        draft = new Equation();
        Views views = new Views(grammar);
        equations = new Equations(grammar, views);
        reader = new TreeReader(grammar);
        tree = new Tree();
        fresh = new Tree();
        kept = new Findings();
        scratch = new Findings();
        int[] ringValues = new int[SLOTS];
        finder = new Finder(grammar, equations, views, tree, ringValues);
        rings = new Rings(grammar, tree, finder, scratch, ringValues);
        graph = new HangGraph(grammar, equations, views);
    }

    // ---- the grammar

    public int production(int nonterminal, int first, int second, int third)
            throws IndexOutOfBoundsException, IllegalArgumentException, IllegalStateException {
        if (nonterminal < 0 || nonterminal >= NONTERMINALS) {
            throw new IndexOutOfBoundsException("no such nonterminal");
        }
        if (!followsAsSymbol(first, true) || !followsAsSymbol(second, first >= 0)
                || !followsAsSymbol(third, second >= 0)) {
            throw new IllegalArgumentException("a symbol is out of range");
        }
        if (grammar.productions >= MOST_PRODUCTIONS) {
            throw new IllegalStateException("there are 10 productions");
        }
        int number = grammar.addProduction(nonterminal, first, second, third);
        followGrammar();
        return number;
    }

    public int forward(int production, int other, int first, int second, int third)
            throws IndexOutOfBoundsException, IllegalArgumentException {
        if (!grammar.hasProduction(production) || other != NONE && !grammar.hasProduction(other)) {
            throw new IndexOutOfBoundsException("no such production");
        }
        if (!standsByChild(production, other, 0, first) || !standsByChild(production, other, 1, second)
                || !standsByChild(production, other, 2, third)) {
            throw new IndexOutOfBoundsException("no such child");
        }
        if (other == production || other != NONE && grammar.headOf(other) != grammar.headOf(production)) {
            throw new IllegalArgumentException("the other production does not go with it");
        }
        if (!standsRightly(production, other, 0, first) || !standsRightly(production, other, 1, second)
                || !standsRightly(production, other, 2, third)) {
            throw new IllegalArgumentException("a child does not go with it");
        }
        int before = grammar.tellForward(production, other, first, second, third);
        followGrammar();
        return before;
    }

    public int rule(int production, int attribute, int other)
            throws IndexOutOfBoundsException, IllegalArgumentException {
        if (!grammar.hasProduction(production) || !grammar.hasProduction(other)) {
            throw new IndexOutOfBoundsException("no such production");
        }
        mustBeAttribute(attribute);
        if (production == other || !grammar.isAlikeInShape(production, other)) {
            throw new IllegalArgumentException("the other production does not go with it");
        }
        int before = grammar.tellRule(production, attribute, other);
        followGrammar();
        return before;
    }

    public int attribute(int kind) throws IllegalArgumentException, IllegalStateException {
        if (kind < 0 || kind >= ATTRIBUTE_KINDS) {
            throw new IllegalArgumentException("the kind is out of range");
        }
        if (grammar.attributes >= MOST_ATTRIBUTES) {
            throw new IllegalStateException("there are 6 attributes");
        }
        int number = grammar.addAttribute(kind);
        followGrammar();
        return number;
    }

    public int step(int kind, int a, int b)
            throws IndexOutOfBoundsException, IllegalArgumentException, IllegalStateException {
        if (tellsAttribute(kind)) {
            mustBeAttribute(a);
        }
        if (kind < 0 || kind >= STEP_KINDS || !isRightNumber(kind, a) || !isRightChild(kind, b)) {
            throw new IllegalArgumentException("the kind, a or b is out of range");
        }
        if (draft.size >= MOST_STEPS || draft.standing < operandsOf(kind)) {
            throw new IllegalStateException("the draft is full or has too few expressions");
        }
        draft.append(kind, a, b);
        return draft.standing;
    }

    public int dropSteps() {
        int steps = draft.size;
        draft.clear();
        return steps;
    }

    public int equation(int production, int attribute, int target, int aspect)
            throws IndexOutOfBoundsException, IllegalArgumentException, IllegalStateException {
        if (!grammar.hasProduction(production)) {
            throw new IndexOutOfBoundsException("no such production");
        }
        mustBeAttribute(attribute);
        if (target >= 0 && target >= grammar.childCountOf(production)) {
            throw new IndexOutOfBoundsException("no such child");
        }
        mustBeAspect(aspect);
        int kind = grammar.kindOf(attribute);
        if (!goesWithKind(target, kind)) {
            throw new IllegalArgumentException("the target does not go with the attribute");
        }
        if (draft.standing != (kind == GATHERED ? 2 : 1) || equations.count >= MOST_EQUATIONS) {
            throw new IllegalStateException("the draft is no such equation, or there are 30");
        }
        draft.place(production, attribute, target, aspect);
        int number = equations.append(draft);
        draft.clear();
        followGrammar();
        return number;
    }

    public boolean toggle(int aspect) throws IndexOutOfBoundsException {
        mustBeAspect(aspect);
        boolean on = equations.turnAspect(aspect);
        followGrammar();
        return on;
    }

    public int conflicts() {
        return equations.countConflicts();
    }

    public int ringIn() {
        return graph.firstRing();
    }

    // ---- the text and the tree

    public int insert(int place, int letter)
            throws IndexOutOfBoundsException, IllegalArgumentException, IllegalStateException {
        if (place < 0 || place > reader.length) {
            throw new IndexOutOfBoundsException("no such place");
        }
        if (letter < FIRST_LETTER || letter >= FIRST_LETTER + LETTER_KINDS) {
            throw new IllegalArgumentException("the letter is out of range");
        }
        if (reader.length >= MOST_LETTERS || grammar.productions == 0) {
            throw new IllegalStateException("the text is full, or there is no production");
        }
        reader.putLetter(place, letter - FIRST_LETTER);
        return readAgain();
    }

    public int delete(int place) throws IndexOutOfBoundsException, IllegalStateException {
        if (place < 0 || place >= reader.length) {
            throw new IndexOutOfBoundsException("no such letter");
        }
        if (grammar.productions == 0) {
            throw new IllegalStateException("there is no production");
        }
        reader.takeLetter(place);
        return readAgain();
    }

    public int read() throws IllegalStateException {
        if (grammar.productions == 0) {
            throw new IllegalStateException("there is no production");
        }
        return readAgain();
    }

    public int cost() {
        return tree.count == 0 ? NONE : tree.repairs;
    }

    public int node(int node) throws IndexOutOfBoundsException {
        mustBeNode(node);
        int production = tree.readAsOf(node);
        return 1000 * (tree.parentOf(node) + 1) + 10 * production + grammar.childCountOf(production);
    }

    public int rewrite(int node) throws IndexOutOfBoundsException {
        mustBeNode(node);
        int production = tree.nowOf(node);
        int other = grammar.ruleOtherOf(production);
        if (other == NONE) {
            return production;
        }
        rings.settle();
        int found = foundWith(node, grammar.ruleAttributeOf(production), kept);
        if (found <= 0 || found >= REFERENCE) {
            return production;
        }
        tree.rewriteTo(node, other);
        kept.drop(bitOf(node) | ALL_NODES);
        rings.forget();
        return other;
    }

    // ---- asking

    public int value(int node, int attribute) throws IndexOutOfBoundsException {
        mustBeNode(node);
        mustBeAttribute(attribute);
        rings.settle();
        return foundWith(node, attribute, kept);
    }

    public int valueAnew(int node, int attribute) throws IndexOutOfBoundsException {
        mustBeNode(node);
        mustBeAttribute(attribute);
        rings.settle();
        scratch.clear();
        return foundWith(node, attribute, scratch);
    }

    public int found() {
        return kept.made;
    }

    public boolean isKept(int node, int attribute) throws IndexOutOfBoundsException {
        mustBeNode(node);
        mustBeAttribute(attribute);
        return kept.has(slotOf(node, attribute));
    }

    public int why(int node, int attribute, int read) throws IndexOutOfBoundsException {
        mustBeNode(node);
        mustBeAttribute(attribute);
        rings.settle();
        scratch.clear();
        finder.findListing(node, attribute, scratch);
        if (read < 0 || read >= finder.listed) {
            throw new IndexOutOfBoundsException("no such read");
        }
        int slot = entryOf(finder.list, read);
        return 10 * (slot / MOST_ATTRIBUTES) + slot % MOST_ATTRIBUTES;
    }

    // ---- what the calls share

    private void mustBeAttribute(int attribute) {
        if (!grammar.hasAttribute(attribute)) {
            throw new IndexOutOfBoundsException("no such attribute");
        }
    }

    private void mustBeAspect(int aspect) {
        if (aspect < 0 || aspect >= ASPECTS) {
            throw new IndexOutOfBoundsException("no such aspect");
        }
    }

    private void mustBeNode(int node) {
        if (node < 0 || node >= tree.count) {
            throw new IndexOutOfBoundsException("no such node");
        }
    }

    private void followGrammar() {
        equations.arrange();
        kept.clear();
        rings.forget();
    }

    private int foundWith(int node, int attribute, Findings book) {
        if (grammar.kindOf(attribute) == RING) {
            return rings.valueOf(slotOf(node, attribute));
        }
        return finder.find(node, attribute, book);
    }

    private int readAgain() {
        reader.readInto(fresh);
        int same = tree.compare(fresh);
        if (same != tree.count || same != fresh.count) {
            kept.drop(tree.touched() | ALL_NODES);
            kept.follow(tree);
            rings.forget();
        }
        tree.take(fresh);
        return 100 * tree.count + same;
    }

    private boolean standsByChild(int production, int other, int child, int standing) {
        return child >= grammar.childCountOf(other)
                || standing >= 0 && standing < grammar.childCountOf(production);
    }

    private boolean standsRightly(int production, int other, int child, int standing) {
        if (child >= grammar.childCountOf(other)) {
            return standing == 0;
        }
        return grammar.childHeadOf(production, standing) == grammar.childHeadOf(other, child);
    }

    private static boolean followsAsSymbol(int symbol, boolean mayFollow) {
        int most = NONTERMINALS + LETTER_KINDS - 1;
        return symbol == NONE || mayFollow && symbol >= 0 && symbol <= most;
    }

    private static boolean tellsAttribute(int kind) {
        return kind == OWN || kind == CHILD || kind == OF;
    }

    private static boolean isRightNumber(int kind, int a) {
        if (tellsAttribute(kind)) {
            return true;
        }
        int most = 0;
        if (kind == NUMBER) {
            most = 999;
        } else if (kind == LETTER || kind == PUT) {
            most = MOST_SYMBOLS - 1;
        }
        return a >= 0 && a <= most;
    }

    private static boolean isRightChild(int kind, int b) {
        return b >= 0 && b <= (kind == CHILD || kind == AT ? MOST_SYMBOLS - 1 : 0);
    }

    private static boolean goesWithKind(int target, int kind) {
        if (kind == DOWN) {
            return target >= 0;
        }
        return target == (kind == GATHERED ? CONTRIBUTION : ITSELF);
    }

    private static int operandsOf(int kind) {
        if (kind == OF) {
            return 1;
        }
        if (kind == CHOOSE) {
            return 3;
        }
        return kind >= ADD && kind <= SAME ? 2 : 0;
    }

    private static int slotOf(int node, int attribute) {
        return node * MOST_ATTRIBUTES + attribute;
    }

    private static int bitOf(int node) {
        return node >= 0 && node < MOST_NODES ? 1 << node : 0;
    }

    private static int entryOf(int[] row, int index) {
        return index >= 0 && index < row.length ? row[index] : NONE;
    }

    private static void setEntry(int[] row, int index, int entry) {
        if (index >= 0 && index < row.length) {
            row[index] = entry;
        }
    }

    private static void fillRow(int[] row, int entry) {
        for (int i = 0; i < row.length; i++) {
            row[i] = entry;
        }
    }

    private static void copyRow(int[] from, int[] to) {
        for (int i = 0; i < from.length && i < to.length; i++) {
            to[i] = from[i];
        }
    }

    /** Productions with what they forward to and are rewritten by, and the kinds of the attributes. */
    private static final class Grammar {
        int productions;
        int attributes;
        private final int[] heads = new int[MOST_PRODUCTIONS];
        private final int[] lengths = new int[MOST_PRODUCTIONS];
        private final int[] symbols = new int[MOST_PRODUCTIONS * MOST_SYMBOLS];
        private final int[] childCounts = new int[MOST_PRODUCTIONS];
        private final int[] childHeads = new int[MOST_PRODUCTIONS * MOST_SYMBOLS];
        private final int[] letterCounts = new int[MOST_PRODUCTIONS];
        private final int[] letters = new int[MOST_PRODUCTIONS * MOST_SYMBOLS];
        private final int[] forwards = new int[MOST_PRODUCTIONS];
        private final int[] standIns = new int[MOST_PRODUCTIONS * MOST_SYMBOLS];
        private final int[] ruleAttributes = new int[MOST_PRODUCTIONS];
        private final int[] ruleOthers = new int[MOST_PRODUCTIONS];
        private final int[] kinds = new int[MOST_ATTRIBUTES];

        int addProduction(int head, int first, int second, int third) {
            int number = productions;
            productions++;
            setEntry(heads, number, head);
            setEntry(lengths, number, 0);
            setEntry(childCounts, number, 0);
            setEntry(letterCounts, number, 0);
            setEntry(forwards, number, NONE);
            setEntry(ruleAttributes, number, NONE);
            setEntry(ruleOthers, number, NONE);
            appendSymbol(number, first);
            appendSymbol(number, second);
            appendSymbol(number, third);
            return number;
        }

        private void appendSymbol(int production, int symbol) {
            if (symbol < 0) {
                return;
            }
            appendTo(symbols, lengths, production, symbol);
            if (symbol < NONTERMINALS) {
                appendTo(childHeads, childCounts, production, symbol);
            } else {
                appendTo(letters, letterCounts, production, symbol - NONTERMINALS);
            }
        }

        private static void appendTo(int[] row, int[] counts, int production, int entry) {
            int count = entryOf(counts, production);
            setEntry(row, production * MOST_SYMBOLS + count, entry);
            setEntry(counts, production, count + 1);
        }

        int addAttribute(int kind) {
            int number = attributes;
            attributes++;
            setEntry(kinds, number, kind);
            return number;
        }

        int tellForward(int production, int other, int first, int second, int third) {
            int before = forwardOf(production);
            setEntry(forwards, production, other);
            setEntry(standIns, production * MOST_SYMBOLS, first);
            setEntry(standIns, production * MOST_SYMBOLS + 1, second);
            setEntry(standIns, production * MOST_SYMBOLS + 2, third);
            return before;
        }

        int tellRule(int production, int attribute, int other) {
            int before = ruleOtherOf(production);
            setEntry(ruleAttributes, production, attribute);
            setEntry(ruleOthers, production, other);
            return before;
        }

        boolean hasProduction(int production) {
            return production >= 0 && production < productions;
        }

        boolean hasAttribute(int attribute) {
            return attribute >= 0 && attribute < attributes;
        }

        int kindOf(int attribute) {
            return attribute >= 0 && attribute < attributes && attribute < MOST_ATTRIBUTES ? kinds[attribute] : NONE;
        }

        int headOf(int production) {
            return production >= 0 && production < MOST_PRODUCTIONS ? heads[production] : NONE;
        }

        int lengthOf(int production) {
            return production >= 0 && production < MOST_PRODUCTIONS ? lengths[production] : NONE;
        }

        int symbolOf(int production, int place) {
            int index = production * MOST_SYMBOLS + place;
            return place >= 0 && place < MOST_SYMBOLS && index >= 0 && index < symbols.length ? symbols[index] : NONE;
        }

        int childCountOf(int production) {
            return production >= 0 && production < MOST_PRODUCTIONS ? childCounts[production] : 0;
        }

        int childHeadOf(int production, int child) {
            boolean exists = child >= 0 && child < childCountOf(production);
            return exists ? entryOf(childHeads, production * MOST_SYMBOLS + child) : NONE;
        }

        int letterOf(int production, int letter) {
            if (production < 0 || production >= MOST_PRODUCTIONS || letter < 0 || letter >= letterCounts[production]) {
                return NONE;
            }
            int index = production * MOST_SYMBOLS + letter;
            return index < letters.length ? letters[index] : NONE;
        }

        int forwardOf(int production) {
            return production >= 0 && production < MOST_PRODUCTIONS ? forwards[production] : NONE;
        }

        int standInOf(int production, int child) {
            boolean exists = child >= 0 && child < MOST_SYMBOLS;
            return exists ? entryOf(standIns, production * MOST_SYMBOLS + child) : NONE;
        }

        int ruleAttributeOf(int production) {
            return production >= 0 && production < MOST_PRODUCTIONS ? ruleAttributes[production] : NONE;
        }

        int ruleOtherOf(int production) {
            return production >= 0 && production < MOST_PRODUCTIONS ? ruleOthers[production] : NONE;
        }

        boolean isAlikeInShape(int one, int other) {
            boolean alike = headOf(one) == headOf(other) && childCountOf(one) == childCountOf(other)
                    && entryOf(letterCounts, one) == entryOf(letterCounts, other);
            for (int child = 0; child < MOST_SYMBOLS; child++) {
                alike = alike && childHeadOf(one, child) == childHeadOf(other, child);
            }
            return alike;
        }
    }

    /** Steps with the place for which they are told; the draft is one as well, not placed yet. */
    private static final class Equation {
        int production;
        int attribute;
        int target;
        int aspect;
        int size;
        int standing;
        private final int[] kinds = new int[MOST_STEPS];
        private final int[] numbers = new int[MOST_STEPS];
        private final int[] children = new int[MOST_STEPS];
        // Of each step: the step that takes it (NONE if none does), as its how-manieth operand, and
        // the step with which its own expression begins: so the steps can be looked at in their
        // order, and what need not be looked at is jumped over.
        private final int[] users = new int[MOST_STEPS];
        private final int[] roles = new int[MOST_STEPS];
        private final int[] starts = new int[MOST_STEPS];
        private final int[] stack = new int[MOST_STEPS];

        void append(int kind, int a, int b) {
            int operands = operandsOf(kind);
            if (size >= MOST_STEPS || operands > standing) {
                return;
            }
            int start = size;
            standing -= operands;
            for (int role = 0; role < operands; role++) {
                int operand = entryOf(stack, standing + role);
                setEntry(users, operand, size);
                setEntry(roles, operand, role);
                start = role == 0 ? entryOf(starts, operand) : start;
            }
            setEntry(kinds, size, kind);
            setEntry(numbers, size, a);
            setEntry(children, size, b);
            setEntry(users, size, NONE);
            setEntry(roles, size, 0);
            setEntry(starts, size, start);
            setEntry(stack, standing, size);
            standing++;
            size++;
        }

        void clear() {
            size = 0;
            standing = 0;
        }

        void place(int ofProduction, int ofAttribute, int atTarget, int inAspect) {
            production = ofProduction;
            attribute = ofAttribute;
            target = atTarget;
            aspect = inAspect;
        }

        void take(Equation other) {
            place(other.production, other.attribute, other.target, other.aspect);
            size = other.size;
            standing = other.standing;
            copyRow(other.kinds, kinds);
            copyRow(other.numbers, numbers);
            copyRow(other.children, children);
            copyRow(other.users, users);
            copyRow(other.roles, roles);
            copyRow(other.starts, starts);
        }

        boolean isFor(int ofProduction, int ofAttribute, int atTarget) {
            return production == ofProduction && attribute == ofAttribute && target == atTarget;
        }

        int kindOf(int step) {
            return step >= 0 && step < MOST_STEPS ? kinds[step] : NONE;
        }

        int numberOf(int step) {
            return step >= 0 && step < MOST_STEPS ? numbers[step] : NONE;
        }

        int childOf(int step) {
            return step >= 0 && step < MOST_STEPS ? children[step] : NONE;
        }

        int userOf(int step) {
            return step >= 0 && step < MOST_STEPS ? users[step] : NONE;
        }

        int roleOf(int step) {
            return step >= 0 && step < MOST_STEPS ? roles[step] : NONE;
        }

        int startOf(int step) {
            return step >= 0 && step < MOST_STEPS ? starts[step] : NONE;
        }
    }

    /** Each production as it is and as its forwards show it, with the children that stand there. */
    private static final class Views {
        private static final int HOPS = MOST_FORWARDS + 1;

        private final Grammar grammar;
        private final int[] productions = new int[MOST_PRODUCTIONS * HOPS];
        private final int[] standing = new int[MOST_PRODUCTIONS * HOPS * MOST_SYMBOLS];

        Views(Grammar itsGrammar) {
            grammar = itsGrammar;
        }

        void arrange() {
            fillRow(productions, NONE);
            fillRow(standing, NONE);
            for (int production = 0; production < grammar.productions; production++) {
                arrangeOne(production);
            }
        }

        private void arrangeOne(int production) {
            int before = NONE;
            int shown = production;
            for (int hop = 0; hop < HOPS && shown != NONE; hop++) {
                int place = production * HOPS + hop;
                setEntry(productions, place, shown);
                for (int child = 0; child < grammar.childCountOf(shown); child++) {
                    int standIn = grammar.standInOf(before, child);
                    int stands = hop == 0 ? child : childAt(production, hop - 1, standIn);
                    setEntry(standing, place * MOST_SYMBOLS + child, stands);
                }
                before = shown;
                shown = grammar.forwardOf(shown);
            }
        }

        /** What is shown behind some forwards; NONE if there are not so many. */
        int productionAt(int production, int hop) {
            int place = production * HOPS + hop;
            boolean exists = hop >= 0 && hop < HOPS && place >= 0 && place < productions.length;
            return exists ? productions[place] : NONE;
        }

        /** The child of the node that stands for a child there; NONE if there is no such child. */
        int childAt(int production, int hop, int child) {
            int place = (production * HOPS + hop) * MOST_SYMBOLS + child;
            boolean exists = hop >= 0 && hop < HOPS && child >= 0 && child < MOST_SYMBOLS;
            return exists && place >= 0 && place < standing.length ? standing[place] : NONE;
        }

        /** The target there for a target at the node; NOWHERE if the child stands for none. */
        int targetAt(int production, int hop, int target) {
            if (target < 0) {
                return target;
            }
            for (int child = 0; child < MOST_SYMBOLS; child++) {
                if (childAt(production, hop, child) == target) {
                    return child;
                }
            }
            return NOWHERE;
        }
    }

    /** The equations, their aspects, and which of them count for what. */
    private static final class Equations {
        private static final int TARGETS = MOST_SYMBOLS + 1;
        private static final int ALL_TARGETS = MOST_PRODUCTIONS * MOST_ATTRIBUTES * TARGETS;

        int count;
        private final Equation[] rows = new Equation[MOST_EQUATIONS];
        private final boolean[] off = new boolean[ASPECTS];
        private final Grammar grammar;
        private final Views views;
        // By production, attribute and target: NONE, the equation that counts, or CONFLICT; first
        // without forwards, then with them, and behind how many of them it stands.
        private final int[] singles = new int[ALL_TARGETS];
        private final int[] resolved = new int[ALL_TARGETS];
        private final int[] hops = new int[ALL_TARGETS];
        // By production and attribute the first contribution that counts, and to each the next one.
        private final int[] firstGifts = new int[MOST_PRODUCTIONS * MOST_ATTRIBUTES];
        private final int[] nextGifts = new int[MOST_EQUATIONS];

        Equations(Grammar itsGrammar, Views itsViews) {
            grammar = itsGrammar;
            views = itsViews;
            for (int i = 0; i < rows.length; i++) {
                rows[i] = new Equation();
            }
        }

        int append(Equation draft) {
            int number = count;
            Equation row = number >= 0 && number < rows.length ? rows[number] : null;
            if (row == null) {
                return NONE;
            }
            row.take(draft);
            count++;
            return number;
        }

        boolean turnAspect(int aspect) {
            if (aspect < 0 || aspect >= off.length) {
                return false;
            }
            off[aspect] = !off[aspect];
            return !off[aspect];
        }

        Equation rowOf(int number) {
            return number >= 0 && number < count && number < rows.length ? rows[number] : null;
        }

        boolean counts(Equation equation) {
            int aspect = equation.aspect;
            return aspect >= 0 && aspect < off.length && !off[aspect];
        }

        /** Is called behind each change of the grammar, so that nothing is searched while finding. */
        void arrange() {
            views.arrange();
            fillRow(singles, NONE);
            fillRow(firstGifts, NONE);
            // From the last one back, so that the chains of contributions run by rising numbers.
            for (int number = count - 1; number >= 0; number--) {
                Equation equation = rowOf(number);
                if (equation != null && counts(equation)) {
                    arrangeOne(equation, number);
                }
            }
            for (int production = 0; production < grammar.productions; production++) {
                for (int attribute = 0; attribute < grammar.attributes; attribute++) {
                    for (int target = ITSELF; target < MOST_SYMBOLS; target++) {
                        resolve(production, attribute, target);
                    }
                }
            }
        }

        private void arrangeOne(Equation equation, int number) {
            int gifts = equation.production * MOST_ATTRIBUTES + equation.attribute;
            if (equation.target == CONTRIBUTION) {
                setEntry(nextGifts, number, entryOf(firstGifts, gifts));
                setEntry(firstGifts, gifts, number);
                return;
            }
            int place = placeOf(equation.production, equation.attribute, equation.target);
            setEntry(singles, place, entryOf(singles, place) == NONE ? number : CONFLICT);
        }

        private void resolve(int production, int attribute, int target) {
            int place = placeOf(production, attribute, target);
            setEntry(resolved, place, NONE);
            for (int hop = 0; hop <= MOST_FORWARDS; hop++) {
                int shown = views.productionAt(production, hop);
                int there = views.targetAt(production, hop, target);
                int single = entryOf(singles, placeOf(shown, attribute, there));
                if (single != NONE) {
                    setEntry(resolved, place, single);
                    setEntry(hops, place, hop);
                    return;
                }
            }
        }

        /** The place in the rows by target; NONE if there is no such production or target. */
        private static int placeOf(int production, int attribute, int target) {
            if (production < 0 || attribute < 0 || target < ITSELF || target >= MOST_SYMBOLS) {
                return NONE;
            }
            return (production * MOST_ATTRIBUTES + attribute) * TARGETS + target + 1;
        }

        /** The equation of a production with its forwards, NONE or CONFLICT. */
        int resolvedFor(int production, int attribute, int target) {
            return entryOf(resolved, placeOf(production, attribute, target));
        }

        int hopsFor(int production, int attribute, int target) {
            return entryOf(hops, placeOf(production, attribute, target));
        }

        int firstGiftOf(int production, int attribute) {
            int place = production * MOST_ATTRIBUTES + attribute;
            return place >= 0 && place < firstGifts.length ? firstGifts[place] : NONE;
        }

        int nextGiftOf(int number) {
            return number >= 0 && number < nextGifts.length ? nextGifts[number] : NONE;
        }

        int countConflicts() {
            int conflicting = 0;
            for (int number = 0; number < count; number++) {
                Equation equation = rowOf(number);
                if (equation != null && counts(equation) && isInConflict(equation)) {
                    conflicting++;
                }
            }
            return conflicting;
        }

        private boolean isInConflict(Equation equation) {
            int place = placeOf(equation.production, equation.attribute, equation.target);
            return entryOf(singles, place) == CONFLICT;
        }
    }

    /** The nodes of a text, by their numbers. */
    private static final class Tree {
        int count;
        int repairs;
        private final int[] parents = new int[MOST_NODES];
        private final int[] places = new int[MOST_NODES];
        private final int[] readAs = new int[MOST_NODES];
        private final int[] now = new int[MOST_NODES];
        private final int[] children = new int[MOST_NODES * MOST_SYMBOLS];
        private final int[] puts = new int[MOST_NODES];
        // Behind compare(): the number of each node in the tree that comes, NONE if it is not kept.
        private final int[] heirs = new int[MOST_NODES];

        void clear() {
            count = 0;
            repairs = 0;
        }

        /** Adds a node as child of a node that is there (the root: NONE); answers NONE if there are 30. */
        int append(int parent, int place, int production, int put) {
            int number = count;
            if (number >= MOST_NODES) {
                return NONE;
            }
            count++;
            setEntry(parents, number, parent);
            setEntry(places, number, place);
            setEntry(readAs, number, production);
            setEntry(now, number, production);
            setEntry(puts, number, put);
            for (int child = 0; child < MOST_SYMBOLS; child++) {
                setEntry(children, number * MOST_SYMBOLS + child, NONE);
            }
            if (parent >= 0 && place >= 0 && place < MOST_SYMBOLS) {
                setEntry(children, parent * MOST_SYMBOLS + place, number);
            }
            return number;
        }

        boolean hasNode(int node) {
            return node >= 0 && node < count;
        }

        int parentOf(int node) {
            return node >= 0 && node < MOST_NODES ? parents[node] : NONE;
        }

        int placeOf(int node) {
            return node >= 0 && node < MOST_NODES ? places[node] : NONE;
        }

        int readAsOf(int node) {
            return node >= 0 && node < MOST_NODES ? readAs[node] : NONE;
        }

        int nowOf(int node) {
            return node >= 0 && node < MOST_NODES ? now[node] : NONE;
        }

        void rewriteTo(int node, int production) {
            setEntry(now, node, production);
        }

        int childOf(int node, int child) {
            if (node < 0 || node >= count || child < 0 || child >= MOST_SYMBOLS) {
                return NONE;
            }
            int index = node * MOST_SYMBOLS + child;
            return index < children.length ? children[index] : NONE;
        }

        int putOf(int node, int letter) {
            boolean exists = node >= 0 && node < MOST_NODES && letter >= 0 && letter < MOST_SYMBOLS;
            return exists ? puts[node] >> letter & 1 : 0;
        }

        int heirOf(int node) {
            return hasNode(node) ? entryOf(heirs, node) : NONE;
        }

        /** Finds the nodes that are kept, lets those of the coming tree be rewritten as they are, counts them. */
        int compare(Tree coming) {
            int same = 0;
            for (int node = 0; node < count; node++) {
                int heir = node == 0 ? 0 : coming.childOf(heirOf(parentOf(node)), placeOf(node));
                if (!coming.hasNode(heir) || !isAlike(node, coming, heir)) {
                    setEntry(heirs, node, NONE);
                    continue;
                }
                setEntry(heirs, node, heir);
                coming.rewriteTo(heir, nowOf(node));
                same++;
            }
            return same;
        }

        private boolean isAlike(int node, Tree coming, int heir) {
            return readAsOf(node) == coming.readAsOf(heir)
                    && entryOf(puts, node) == entryOf(coming.puts, heir);
        }

        /** The nodes, as bits, that are none any more behind compare(), or get another child. */
        int touched() {
            int bits = 0;
            for (int node = 0; node < count; node++) {
                if (heirOf(node) == NONE) {
                    bits |= bitOf(node) | bitOf(parentOf(node));
                }
            }
            return bits;
        }

        void take(Tree other) {
            count = other.count;
            repairs = other.repairs;
            copyRow(other.parents, parents);
            copyRow(other.places, places);
            copyRow(other.readAs, readAs);
            copyRow(other.now, now);
            copyRow(other.children, children);
            copyRow(other.puts, puts);
        }
    }

    /** The text, and how it is read: what each symbol costs for each stretch, then the tree by that. */
    private static final class TreeReader {
        // A weight is a cost and, behind it, a number of nodes: the least weight is the least cost,
        // and the fewest nodes of that. No tree of least cost comes near to ENDLESS.
        private static final int ONE_COST = 100_000, ENDLESS = 500_000_000;
        private static final int ENDS = MOST_LETTERS + 1, STRETCHES = ENDS * ENDS;
        // The same nonterminal twice for one stretch, one below the other, is never least: so the
        // weights of a stretch stand still behind as many turns as there are nonterminals.
        private static final int MOST_TURNS = NONTERMINALS + 2;
        private static final int MOST_WAITING = MOST_NODES * MOST_SYMBOLS;

        int length;
        private final Grammar grammar;
        private final int[] text = new int[MOST_LETTERS];
        private final int[] weights = new int[(NONTERMINALS + LETTER_KINDS) * STRETCHES];
        // Of a production with three symbols: what the second and the third one weigh together.
        private final int[] tails = new int[MOST_PRODUCTIONS * STRETCHES];
        private int cut;
        // What still has to become a node: nonterminal, stretch, parent and place below it.
        private int waiting;
        private final int[] heads = new int[MOST_WAITING];
        private final int[] froms = new int[MOST_WAITING];
        private final int[] tos = new int[MOST_WAITING];
        private final int[] parents = new int[MOST_WAITING];
        private final int[] places = new int[MOST_WAITING];
        private final int[] ends = new int[MOST_SYMBOLS + 1];

        TreeReader(Grammar itsGrammar) {
            grammar = itsGrammar;
        }

        void putLetter(int place, int letter) {
            for (int i = length; i > place; i--) {
                setEntry(text, i, entryOf(text, i - 1));
            }
            setEntry(text, place, letter);
            length++;
        }

        void takeLetter(int place) {
            for (int i = place; i + 1 < length; i++) {
                setEntry(text, i, entryOf(text, i + 1));
            }
            length--;
        }

        void readInto(Tree tree) {
            tree.clear();
            measure();
            int weight = weightOf(0, 0, length);
            if (weight < ENDLESS && weight % ONE_COST <= MOST_NODES) {
                grow(tree);
                tree.repairs = weight / ONE_COST;
            }
        }

        private void measure() {
            fillRow(weights, ENDLESS);
            fillRow(tails, ENDLESS);
            for (int letter = 0; letter < LETTER_KINDS; letter++) {
                measureLetter(letter);
            }
            for (int size = 0; size <= length; size++) {
                for (int from = 0; from + size <= length; from++) {
                    measureStretch(from, from + size);
                }
            }
        }

        private void measureLetter(int letter) {
            for (int from = 0; from <= length; from++) {
                boolean among = false;
                for (int to = from; to <= length; to++) {
                    among = among || to > from && entryOf(text, to - 1) == letter;
                    int cost = among ? to - from - 1 : to - from + 1;
                    setEntry(weights, placeOf(NONTERMINALS + letter, from, to), cost * ONE_COST);
                }
            }
        }

        private void measureStretch(int from, int to) {
            boolean changed = true;
            for (int turn = 0; turn < MOST_TURNS && changed; turn++) {
                changed = false;
                for (int production = 0; production < grammar.productions; production++) {
                    if (grammar.lengthOf(production) == MOST_SYMBOLS) {
                        setEntry(tails, placeOf(production, from, to), weigh(production, 1, from, to));
                    }
                    int weight = weigh(production, 0, from, to) + 1;
                    int place = placeOf(grammar.headOf(production), from, to);
                    if (weight < entryOf(weights, place)) {
                        setEntry(weights, place, weight);
                        changed = true;
                    }
                }
            }
        }

        /** What the symbols of a production weigh from a place on; cut is then where the first of these ends. */
        private int weigh(int production, int place, int from, int to) {
            int last = grammar.lengthOf(production) - 1;
            int symbol = grammar.symbolOf(production, place);
            cut = to;
            if (last < 0) {
                return (to - from) * ONE_COST;
            }
            if (place >= last) {
                return weightOf(symbol, from, to);
            }
            boolean twoBehind = place + 1 < last;
            int[] behind = twoBehind ? tails : weights;
            int row = twoBehind ? production : grammar.symbolOf(production, last);
            int least = ENDLESS;
            for (int end = from; end <= to; end++) {
                int weight = weightOf(symbol, from, end) + entryOf(behind, placeOf(row, end, to));
                if (weight < least) {
                    least = weight;
                    cut = end;
                }
            }
            return least;
        }

        private int weightOf(int symbol, int from, int to) {
            return entryOf(weights, placeOf(symbol, from, to));
        }

        private static int placeOf(int row, int from, int to) {
            return row * STRETCHES + from * ENDS + to;
        }

        private void grow(Tree tree) {
            waiting = 0;
            await(0, 0, length, NONE, 0);
            for (int i = 0; i < MOST_NODES && waiting > 0; i++) {
                waiting--;
                int from = entryOf(froms, waiting);
                int to = entryOf(tos, waiting);
                int production = productionFor(entryOf(heads, waiting), from, to);
                cutUp(production, from, to);
                int put = putsOf(production);
                int node = tree.append(entryOf(parents, waiting), entryOf(places, waiting), production, put);
                awaitChildren(production, node);
            }
        }

        private void await(int head, int from, int to, int parent, int place) {
            if (waiting >= MOST_WAITING) {
                return;
            }
            setEntry(heads, waiting, head);
            setEntry(froms, waiting, from);
            setEntry(tos, waiting, to);
            setEntry(parents, waiting, parent);
            setEntry(places, waiting, place);
            waiting++;
        }

        /** The lowest production by which a nonterminal is as light for a stretch as it can be. */
        private int productionFor(int head, int from, int to) {
            int least = weightOf(head, from, to);
            for (int production = 0; production < grammar.productions; production++) {
                if (grammar.headOf(production) == head && weigh(production, 0, from, to) + 1 == least) {
                    return production;
                }
            }
            return NONE;
        }

        private void cutUp(int production, int from, int to) {
            fillRow(ends, to);
            setEntry(ends, 0, from);
            int start = from;
            for (int place = 0; place < grammar.lengthOf(production); place++) {
                weigh(production, place, start, to);
                start = cut;
                setEntry(ends, place + 1, start);
            }
        }

        /** A bit for each letter of the production that is put in, as it is not in its stretch. */
        private int putsOf(int production) {
            int bits = 0;
            int bit = 1;
            for (int place = 0; place < grammar.lengthOf(production); place++) {
                int symbol = grammar.symbolOf(production, place);
                if (symbol < NONTERMINALS) {
                    continue;
                }
                int from = entryOf(ends, place);
                int to = entryOf(ends, place + 1);
                bits |= weightOf(symbol, from, to) > (to - from) * ONE_COST ? bit : 0;
                bit <<= 1;
            }
            return bits;
        }

        /** The last child first, so that the first one, with all below it, comes ahead of it. */
        private void awaitChildren(int production, int node) {
            int child = grammar.childCountOf(production);
            for (int place = grammar.lengthOf(production) - 1; place >= 0; place--) {
                int symbol = grammar.symbolOf(production, place);
                if (symbol < NONTERMINALS) {
                    child--;
                    await(symbol, entryOf(ends, place), entryOf(ends, place + 1), node, child);
                }
            }
        }
    }

    /** What was found for attributes of nodes, and on which nodes it hangs. */
    private static final class Findings {
        int made;
        private final int[] values = new int[SLOTS];
        // Never 0 where something was found, as all hangs on a node at least.
        private final int[] hangs = new int[SLOTS];
        private final int[] nextValues = new int[SLOTS];
        private final int[] nextHangs = new int[SLOTS];

        boolean has(int slot) {
            return slot >= 0 && slot < SLOTS && hangs[slot] != 0;
        }

        int valueOf(int slot) {
            return slot >= 0 && slot < SLOTS ? values[slot] : NONE;
        }

        int hangsOf(int slot) {
            return slot >= 0 && slot < SLOTS ? hangs[slot] : 0;
        }

        void keep(int slot, int found, int bits) {
            setEntry(values, slot, found);
            setEntry(hangs, slot, bits);
            made++;
        }

        void clear() {
            fillRow(hangs, 0);
        }

        void drop(int bits) {
            for (int slot = 0; slot < SLOTS; slot++) {
                if ((entryOf(hangs, slot) & bits) != 0) {
                    setEntry(hangs, slot, 0);
                }
            }
        }

        /** Gives all that is left behind drop() the numbers of the nodes to come. */
        void follow(Tree tree) {
            fillRow(nextHangs, 0);
            for (int slot = 0; slot < SLOTS; slot++) {
                int heir = tree.heirOf(slot / MOST_ATTRIBUTES);
                if (has(slot) && heir != NONE) {
                    int next = slotOf(heir, slot % MOST_ATTRIBUTES);
                    setEntry(nextValues, next, valueInHeirs(tree, valueOf(slot)));
                    setEntry(nextHangs, next, bitsInHeirs(tree, hangsOf(slot)));
                }
            }
            copyRow(nextValues, values);
            copyRow(nextHangs, hangs);
        }

        private static int valueInHeirs(Tree tree, int found) {
            return found < REFERENCE ? found : REFERENCE + tree.heirOf(found - REFERENCE);
        }

        private static int bitsInHeirs(Tree tree, int bits) {
            int inHeirs = 0;
            for (int node = 0; node < MOST_NODES; node++) {
                inHeirs |= (bits & bitOf(node)) != 0 ? bitOf(tree.heirOf(node)) : 0;
            }
            return inHeirs;
        }
    }

    /** An attribute that is being found: where it stands in which expression, and what was told so far. */
    private static final class Frame {
        int node;
        int attribute;
        // The node at which the equation is looked at, its production, and behind how many forwards
        // of that the equation stands.
        int at;
        int production;
        int hops;
        Equation equation;
        int next;
        int hangs;
        int answer;
        boolean settled;
        // Of a GATHERED one: the contribution that is looked at, at which expression, and the sum.
        int gift;
        boolean inSecond;
        int sum;
        private final int[] held = new int[MOST_STEPS];

        void settle(int found) {
            answer = found;
            settled = true;
        }

        int heldFor(int step) {
            return step >= 0 && step < MOST_STEPS ? held[step] : NONE;
        }

        /**
         * Hands what a step is to those that take it, as far up as that tells what they are. Answers
         * GOING if next is to be looked at now, otherwise what the whole expression is.
         */
        int climb(Equation along, int step, int found) {
            int here = step;
            int whole = found;
            for (int i = 0; i < MOST_STEPS; i++) {
                int user = along.userOf(here);
                if (user == NONE) {
                    next = here + 1;
                    return whole;
                }
                // Below 0 it stands in place of a value, and then the taker is just that as well.
                if (whole >= 0) {
                    whole = takeUp(along, user, here, whole);
                }
                if (whole == GOING) {
                    return GOING;
                }
                here = user;
            }
            return NONE;
        }

        private int takeUp(Equation along, int user, int step, int found) {
            int kind = along.kindOf(user);
            if (kind == CHOOSE) {
                if (along.roleOf(step) > 0) {
                    return found;
                }
                next = found != 0 ? step + 1 : along.startOf(user - 1);
                return GOING;
            }
            if (kind == OF) {
                if (found < REFERENCE) {
                    return NONE;
                }
                setEntry(held, user, found);
                next = user;
                return GOING;
            }
            if (along.roleOf(step) > 0) {
                return joined(kind, heldFor(user), found);
            }
            setEntry(held, user, found);
            next = step + 1;
            return GOING;
        }

        private static int joined(int kind, int one, int other) {
            if (kind == SAME) {
                return one == other ? 1 : 0;
            }
            if (one >= REFERENCE || other >= REFERENCE) {
                return NONE;
            }
            switch (kind) {
                case ADD:
                    return (one + other) % 1000;
                case MUL:
                    return one * other % 1000;
                case MAX:
                    return one > other ? one : other;
                default:
                    return (one | other) % 1000;
            }
        }
    }

    /** Finds attributes: what is open stands in frames of its own, so that no call goes deep. */
    private static final class Finder {
        // Each slot is open once at most, and each step is looked at twice at most: far below this.
        private static final int MOST_MOVES = 10_000_000;

        // The slots at which the outermost frame looked, for findListing().
        int listed;
        final int[] list = new int[SLOTS];
        private final Grammar grammar;
        private final Equations equations;
        private final Views views;
        private final Tree tree;
        private final int[] ringValues;
        private final Frame[] frames = new Frame[SLOTS + 1];
        private final boolean[] open = new boolean[SLOTS];
        private int depth;
        private int wanted;
        private boolean listing;
        private Findings book;

        Finder(Grammar itsGrammar, Equations itsEquations, Views itsViews, Tree itsTree, int[] itsRingValues) {
            grammar = itsGrammar;
            equations = itsEquations;
            views = itsViews;
            tree = itsTree;
            ringValues = itsRingValues;
            for (int i = 0; i < frames.length; i++) {
                frames[i] = new Frame();
            }
        }

        void findListing(int node, int attribute, Findings inBook) {
            listed = 0;
            listing = true;
            find(node, attribute, inBook);
            listing = false;
        }

        int find(int node, int attribute, Findings inBook) {
            int slot = slotOf(node, attribute);
            book = inBook;
            if (book.has(slot)) {
                return book.valueOf(slot);
            }
            depth = 0;
            begin(slot);
            for (int move = 0; move < MOST_MOVES && depth > 0; move++) {
                Frame frame = topFrame();
                if (frame == null) {
                    return NONE;
                }
                if (frame.settled) {
                    close(frame);
                } else if (!goOn(frame)) {
                    begin(wanted);
                }
            }
            return book.valueOf(slot);
        }

        private Frame topFrame() {
            int top = depth - 1;
            return top >= 0 && top < frames.length ? frames[top] : null;
        }

        private void setOpen(int slot, boolean isOpen) {
            if (slot >= 0 && slot < open.length) {
                open[slot] = isOpen;
            }
        }

        private boolean isOpen(int slot) {
            return slot >= 0 && slot < open.length && open[slot];
        }

        private void begin(int slot) {
            depth++;
            Frame frame = topFrame();
            if (frame == null) {
                depth--;
                return;
            }
            setOpen(slot, true);
            frame.node = slot / MOST_ATTRIBUTES;
            frame.attribute = slot % MOST_ATTRIBUTES;
            frame.hangs = bitOf(frame.node);
            frame.settled = false;
            frame.equation = null;
            int kind = grammar.kindOf(frame.attribute);
            if (kind == GATHERED) {
                frame.hangs |= ALL_NODES;
                frame.sum = 0;
                frame.at = NONE;
                beginGift(frame, NONE);
            } else if (kind == DOWN) {
                frame.hangs |= bitOf(tree.parentOf(frame.node));
                beginEquation(frame, tree.parentOf(frame.node), tree.placeOf(frame.node));
            } else {
                beginEquation(frame, frame.node, ITSELF);
            }
        }

        private void beginEquation(Frame frame, int at, int target) {
            frame.at = at;
            frame.production = tree.nowOf(at);
            int number = equations.resolvedFor(frame.production, frame.attribute, target);
            frame.hops = equations.hopsFor(frame.production, frame.attribute, target);
            frame.equation = equations.rowOf(number);
            frame.next = 0;
            boolean copiesParent = at != NONE && target != ITSELF;
            if (number == CONFLICT || number == NONE && !copiesParent) {
                frame.settle(number);
            }
        }

        /** Begins a contribution; if there is none, the first one of a node behind, or all are gathered. */
        private void beginGift(Frame frame, int first) {
            int gift = first;
            for (int i = 0; i < MOST_NODES && gift == NONE && frame.at + 1 < tree.count; i++) {
                frame.at++;
                frame.production = tree.nowOf(frame.at);
                frame.hops = 0;
                gift = equations.firstGiftOf(frame.production, frame.attribute);
            }
            frame.gift = gift;
            frame.inSecond = false;
            frame.next = 0;
            frame.equation = equations.rowOf(gift);
            if (gift == NONE) {
                frame.settle(frame.sum);
            }
        }

        private void close(Frame frame) {
            int slot = slotOf(frame.node, frame.attribute);
            int hangs = frame.answer == CYCLE ? frame.hangs | ALL_NODES : frame.hangs;
            book.keep(slot, frame.answer, hangs);
            setOpen(slot, false);
            depth--;
        }

        /** Looks at one step; answers false if what is wanted has to be found first. */
        private boolean goOn(Frame frame) {
            Equation equation = frame.equation;
            if (equation == null) {
                int copied = lookAt(frame, frame.at, frame.attribute);
                if (copied != WAIT) {
                    frame.settle(copied);
                }
                return copied != WAIT;
            }
            int step = frame.next;
            int found = lookAtStep(frame, equation, step);
            if (found == WAIT) {
                return false;
            }
            int whole = frame.climb(equation, step, found);
            if (whole != GOING) {
                takeWhole(frame, whole);
            }
            return true;
        }

        private void takeWhole(Frame frame, int whole) {
            if (grammar.kindOf(frame.attribute) != GATHERED || whole == CYCLE || whole == CONFLICT) {
                frame.settle(whole);
                return;
            }
            if (!frame.inSecond && whole == REFERENCE + frame.node) {
                frame.inSecond = true;
                return;
            }
            if (frame.inSecond && whole >= 0 && whole < REFERENCE) {
                frame.sum = (frame.sum + whole) % 1000;
            }
            beginGift(frame, equations.nextGiftOf(frame.gift));
        }

        private int lookAtStep(Frame frame, Equation equation, int step) {
            int a = equation.numberOf(step);
            int child;
            switch (equation.kindOf(step)) {
                case NUMBER:
                    return a;
                case OWN:
                    return lookAt(frame, frame.at, a);
                case CHILD:
                    child = childFor(frame, equation.childOf(step));
                    return child == NONE ? NONE : lookAt(frame, child, a);
                case LETTER:
                    return letterFor(frame, a) == NONE ? NONE : letterFor(frame, a) + 1;
                case PUT:
                    return letterFor(frame, a) == NONE ? NONE : tree.putOf(frame.at, a);
                case SELF:
                    return REFERENCE + frame.at;
                case AT:
                    child = childFor(frame, equation.childOf(step));
                    return child == NONE ? NONE : REFERENCE + child;
                case OF:
                    return lookAt(frame, frame.heldFor(step) - REFERENCE, a);
                case KIND:
                    return tree.nowOf(frame.at);
                default:
                    return NONE;
            }
        }

        private int childFor(Frame frame, int child) {
            return tree.childOf(frame.at, views.childAt(frame.production, frame.hops, child));
        }

        private int letterFor(Frame frame, int letter) {
            return frame.hops > 0 ? NONE : grammar.letterOf(tree.readAsOf(frame.at), letter);
        }

        /** What an attribute of a node is, if that is there; WAIT if it is wanted first. */
        private int lookAt(Frame frame, int node, int attribute) {
            int slot = slotOf(node, attribute);
            if (listing && depth == 1) {
                enlist(slot);
            }
            if (grammar.kindOf(attribute) == RING) {
                frame.hangs |= ALL_NODES;
                return entryOf(ringValues, slot);
            }
            if (book.has(slot)) {
                frame.hangs |= book.hangsOf(slot);
                return book.valueOf(slot);
            }
            if (isOpen(slot)) {
                return CYCLE;
            }
            wanted = slot;
            return WAIT;
        }

        private void enlist(int slot) {
            for (int i = 0; i < listed && i < list.length; i++) {
                if (list[i] == slot) {
                    return;
                }
            }
            if (listed < list.length) {
                list[listed] = slot;
                listed++;
            }
        }
    }

    /** The RING attributes of all nodes, found together by rounds. */
    private static final class Rings {
        private final Grammar grammar;
        private final Tree tree;
        private final Finder finder;
        private final Findings scratch;
        private final int[] now;
        private final int[] next = new int[SLOTS];
        private boolean ready;

        Rings(Grammar itsGrammar, Tree itsTree, Finder itsFinder, Findings itsScratch, int[] itsValues) {
            grammar = itsGrammar;
            tree = itsTree;
            finder = itsFinder;
            scratch = itsScratch;
            now = itsValues;
        }

        void forget() {
            ready = false;
        }

        int valueOf(int slot) {
            return entryOf(now, slot);
        }

        void settle() {
            if (ready) {
                return;
            }
            ready = true;
            fillRow(now, 0);
            fillRow(next, 0);
            for (int round = 0; round < MOST_ROUNDS; round++) {
                if (!goRound()) {
                    return;
                }
            }
            fillRow(now, CYCLE);
        }

        /** Finds all anew from what they were behind the round ahead; answers if one has changed. */
        private boolean goRound() {
            boolean changed = false;
            scratch.clear();
            for (int slot = 0; slot < tree.count * MOST_ATTRIBUTES; slot++) {
                if (grammar.kindOf(slot % MOST_ATTRIBUTES) != RING) {
                    continue;
                }
                int found = finder.find(slot / MOST_ATTRIBUTES, slot % MOST_ATTRIBUTES, scratch);
                setEntry(next, slot, found >= REFERENCE ? NONE : found);
                changed = changed || entryOf(next, slot) != valueOf(slot);
            }
            copyRow(next, now);
            return changed;
        }
    }

    /** What might hang on what in a production, by what its equations tell. */
    private static final class HangGraph {
        // A corner is an attribute of the node, or of its child 0, 1 or 2 behind that.
        private static final int CORNERS = (MOST_SYMBOLS + 1) * MOST_ATTRIBUTES;
        // Each turn but the last one adds a relation, and there are 4 * 6 * 6 at most.
        private static final int MOST_TURNS = 200;

        private final Grammar grammar;
        private final Equations equations;
        private final Views views;
        // Of each corner of the production that is looked at: those on which it hangs, as bits.
        private final int[] hangs = new int[CORNERS];
        // By nonterminal and UP attribute: the DOWN attributes on which it hangs, as bits.
        private final int[] relations = new int[NONTERMINALS * MOST_ATTRIBUTES];

        HangGraph(Grammar itsGrammar, Equations itsEquations, Views itsViews) {
            grammar = itsGrammar;
            equations = itsEquations;
            views = itsViews;
        }

        int firstRing() {
            fillRow(relations, 0);
            boolean changed = true;
            for (int turn = 0; turn < MOST_TURNS && changed; turn++) {
                changed = false;
                for (int production = 0; production < grammar.productions; production++) {
                    draw(production);
                    changed = tellRelations(production) || changed;
                }
            }
            for (int production = 0; production < grammar.productions; production++) {
                draw(production);
                if (hasRing()) {
                    return production;
                }
            }
            return NONE;
        }

        private static int cornerOf(int target, int attribute) {
            return (target + 1) * MOST_ATTRIBUTES + attribute;
        }

        private static boolean hasBit(int bits, int bit) {
            return bit >= 0 && bit < CORNERS && (bits >> bit & 1) != 0;
        }

        private void hang(int corner, int on) {
            if (on >= 0 && on < CORNERS) {
                setEntry(hangs, corner, entryOf(hangs, corner) | 1 << on);
            }
        }

        private boolean isOfKind(int attribute, int kind) {
            return grammar.kindOf(attribute) == kind;
        }

        /** Makes the graph of a production, with all on which something hangs over others. */
        private void draw(int production) {
            fillRow(hangs, 0);
            for (int attribute = 0; attribute < MOST_ATTRIBUTES; attribute++) {
                if (isOfKind(attribute, UP)) {
                    drawEquations(production, attribute, ITSELF);
                }
                for (int child = 0; child < grammar.childCountOf(production); child++) {
                    drawChild(production, attribute, child);
                }
            }
            for (int over = 0; over < CORNERS; over++) {
                for (int corner = 0; corner < CORNERS; corner++) {
                    if (hasBit(entryOf(hangs, corner), over)) {
                        setEntry(hangs, corner, entryOf(hangs, corner) | entryOf(hangs, over));
                    }
                }
            }
        }

        private void drawChild(int production, int attribute, int child) {
            int corner = cornerOf(child, attribute);
            if (isOfKind(attribute, DOWN) && !drawEquations(production, attribute, child)) {
                hang(corner, cornerOf(ITSELF, attribute));
            }
            if (isOfKind(attribute, UP)) {
                int head = grammar.childHeadOf(production, child);
                int related = entryOf(relations, head * MOST_ATTRIBUTES + attribute);
                for (int other = 0; other < MOST_ATTRIBUTES; other++) {
                    if (hasBit(related, other)) {
                        hang(corner, cornerOf(child, other));
                    }
                }
            }
        }

        /** Draws what the equations for a target tell, two if they are in conflict; answers if there is one. */
        private boolean drawEquations(int production, int attribute, int target) {
            if (equations.resolvedFor(production, attribute, target) == NONE) {
                return false;
            }
            int hop = equations.hopsFor(production, attribute, target);
            int shown = views.productionAt(production, hop);
            int there = views.targetAt(production, hop, target);
            for (int number = 0; number < equations.count; number++) {
                Equation equation = equations.rowOf(number);
                if (equation != null && equations.counts(equation) && equation.isFor(shown, attribute, there)) {
                    drawSteps(equation, production, hop, cornerOf(target, attribute));
                }
            }
            return true;
        }

        private void drawSteps(Equation equation, int production, int hop, int corner) {
            for (int step = 0; step < equation.size; step++) {
                int kind = equation.kindOf(step);
                int attribute = equation.numberOf(step);
                int on = kind == CHILD ? views.childAt(production, hop, equation.childOf(step)) : ITSELF;
                boolean exists = kind == OWN || kind == CHILD && on != NONE;
                if (exists && (isOfKind(attribute, UP) || isOfKind(attribute, DOWN))) {
                    hang(corner, cornerOf(on, attribute));
                }
            }
        }

        private boolean tellRelations(int production) {
            int head = grammar.headOf(production);
            boolean changed = false;
            for (int attribute = 0; attribute < MOST_ATTRIBUTES; attribute++) {
                int place = head * MOST_ATTRIBUTES + attribute;
                int before = entryOf(relations, place);
                int related = isOfKind(attribute, UP) ? downsOf(entryOf(hangs, attribute)) : 0;
                setEntry(relations, place, before | related);
                changed = changed || (before | related) != before;
            }
            return changed;
        }

        private int downsOf(int bits) {
            int downs = 0;
            for (int attribute = 0; attribute < MOST_ATTRIBUTES; attribute++) {
                downs |= isOfKind(attribute, DOWN) ? bits & 1 << attribute : 0;
            }
            return downs;
        }

        private boolean hasRing() {
            for (int corner = 0; corner < CORNERS; corner++) {
                if (hasBit(entryOf(hangs, corner), corner)) {
                    return true;
                }
            }
            return false;
        }
    }
}
