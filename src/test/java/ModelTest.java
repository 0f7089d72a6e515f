import java.util.Random;

/**
 * Runs of calls by chance (always the same chance), on an AttribArbor and on the Model: each answer and
 * each exception has to be the same. Arguments: how many runs, and the number of the first one.
 */
public final class ModelTest {
    private static final int CALLS = 512;

    private final AttribArbor real = new AttribArbor();
    private final Model model = new Model();
    private final Random chance;
    private final StringBuilder told = new StringBuilder();
    private final int[] kindOdds = new int[4];
    private final int spoil;
    private final int maxText;
    private final boolean growing;
    private final boolean dense;
    // Whether expressions tell mostly what the production has.
    private final boolean tame;
    private int drafted = 0;
    private int calls = 0;
    private boolean wrong = false;

    // Grammars whose trees grow with the text; a run takes some lines of one of them, in any order.
    private static final int[][][] GROWING = {
        {{0, 4, 0, -1}, {0, 5, -1, -1}, {0, 4, 5, -1}, {0, 5, 0, -1}, {0, 0, 4, -1}},
        {{0, 1, 0, -1}, {0, 1, -1, -1}, {1, 4, -1, -1}, {1, 5, -1, -1}, {1, 4, 1, 5}, {0, -1, -1, -1}},
        {{0, 0, 4, 0}, {0, 5, -1, -1}, {0, 6, 0, -1}, {0, 0, 5, 0}, {0, 6, -1, -1}},
        {{0, 1, 4, 2}, {1, 5, 1, -1}, {1, 5, -1, -1}, {2, 6, 0, -1}, {2, 6, -1, -1}, {2, 1, 1, -1}},
        {{0, 1, 2, 3}, {1, 4, 1, -1}, {1, -1, -1, -1}, {2, 5, 2, -1}, {2, -1, -1, -1}, {3, 6, 3, -1}, {3, -1, -1, -1}},
        {{0, 1, 1, 1}, {1, 2, 2, -1}, {2, 3, 3, -1}, {3, 4, -1, -1}, {3, -1, -1, -1}, {2, 4, 5, -1}, {2, 5, 4, -1}},
        {{0, 1, 1, 1}, {1, 2, 2, 2}, {2, 3, 3, 3}, {3, -1, -1, -1}, {2, 4, -1, -1}, {1, 5, -1, -1}},
        {{0, 1, 0, -1}, {0, 2, 0, -1}, {0, -1, -1, -1}, {1, 4, 1, -1}, {1, 4, -1, -1}, {2, 5, 0, 6}, {2, 5, 1, 6}},
        {{0, 1, 1, -1}, {0, 0, 1, -1}, {1, 4, -1, -1}, {1, 5, -1, -1}, {1, 0, 6, -1}, {1, 6, 0, -1}},
    };

    private interface Call {
        long on(AttribArbor real, Model model);
    }

    private ModelTest(long seed) {
        chance = new Random(seed * 7919 + 17);
        spoil = chance.nextInt(3) == 0 ? 12 : 60;
        maxText = 1 + chance.nextInt(12);
        growing = chance.nextInt(4) > 0;
        dense = chance.nextInt(4) > 0;
        tame = chance.nextInt(4) > 0;
        for (int i = 0; i < 4; i++) {
            kindOdds[i] = chance.nextInt(4);
        }
        kindOdds[0]++;
    }

    public static void main(String[] args) {
        int runs = args.length > 0 ? Integer.parseInt(args[0]) : 300;
        int first = args.length > 1 ? Integer.parseInt(args[1]) : 0;
        int bad = 0;
        for (int run = first; run < first + runs && bad < 5; run++) {
            ModelTest test = new ModelTest(run);
            test.go();
            if (test.wrong) {
                bad++;
                System.out.println("run " + run + ":\n" + test.told);
            }
        }
        System.out.println(bad == 0 ? "ModelTest: " + runs + " runs are alike" : "ModelTest: " + bad + " runs differ");
        System.exit(bad == 0 ? 0 : 1);
    }

    private static String answer(Call call, AttribArbor real, Model model) {
        try {
            return Long.toString(call.on(real, model));
        } catch (IndexOutOfBoundsException | IllegalArgumentException | IllegalStateException e) {
            if (real != null && e.getClass() != IndexOutOfBoundsException.class
                    && e.getClass() != IllegalArgumentException.class && e.getClass() != IllegalStateException.class) {
                return "machine." + e.getClass().getSimpleName();
            }
            return "throws." + e.getClass().getSimpleName();
        }
    }

    private void check(String name, Call call) {
        if (wrong || calls >= CALLS) {
            return;
        }
        calls++;
        String due = answer(call, null, model);
        String is;
        try {
            is = answer(call, real, null);
        } catch (RuntimeException e) {
            is = "machine." + e;
        }
        told.append(name).append(" -> ").append(is);
        if (!is.equals(due)) {
            told.append("  DUE ").append(due);
            wrong = true;
        }
        told.append('\n');
    }

    private int upTo(int most) {
        return most <= 0 ? 0 : chance.nextInt(most);
    }

    /** Mostly below a bound, now and then beyond it or below 0. */
    private int index(int bound) {
        if (chance.nextInt(spoil) == 0) {
            int[] wrong = {-1, bound, bound + 1, -2, -3, Integer.MAX_VALUE, Integer.MIN_VALUE, 1000, 30, 180};
            return wrong[chance.nextInt(wrong.length)];
        }
        return upTo(bound);
    }

    private int symbol() {
        if (chance.nextInt(spoil * 2) == 0) {
            return chance.nextInt(13) - 2;
        }
        int r = chance.nextInt(10);
        if (r < 5) {
            return chance.nextInt(4) < 3 ? chance.nextInt(2) : chance.nextInt(4);
        }
        return 4 + chance.nextInt(chance.nextInt(3) == 0 ? 6 : 3);
    }

    private void production() {
        int head = index(4);
        if (model.productions.size() < 2 || chance.nextInt(3) == 0) {
            head = head < 0 || head > 3 ? head : 0;
        }
        int length = chance.nextInt(4);
        int a = length > 0 ? symbol() : -1;
        int b = length > 1 ? symbol() : -1;
        int c = length > 2 ? symbol() : -1;
        if (chance.nextInt(spoil) == 0) {
            c = chance.nextInt(12) - 2;
        }
        tellProduction(head, a, b, c);
    }

    private void tellProduction(int nonterminal, int a, int b, int c) {
        check("production(" + nonterminal + ", " + a + ", " + b + ", " + c + ")", (r, m) -> r != null
                ? r.production(nonterminal, a, b, c) : m.production(nonterminal, a, b, c));
    }

    private void growingGrammar() {
        int[][] rows = GROWING[chance.nextInt(GROWING.length)].clone();
        for (int i = rows.length - 1; i > 0; i--) {
            int other = chance.nextInt(i + 1);
            int[] row = rows[i];
            rows[i] = rows[other];
            rows[other] = row;
        }
        for (int[] row : rows) {
            if (chance.nextInt(12) > 0) {
                tellProduction(row[0], row[1], row[2], row[3]);
            }
        }
    }

    private int children(int production) {
        boolean exists = production >= 0 && production < model.productions.size();
        return exists ? model.productions.get(production).children().size() : 0;
    }

    private void forward() {
        int size = model.productions.size();
        int p = index(size);
        int o = chance.nextInt(8) == 0 ? -1 : index(size);
        int[] stands = new int[3];
        for (int tries = 0; tries < 12; tries++) {
            o = chance.nextInt(8) == 0 ? -1 : index(size);
            p = index(size);
            boolean fits = p >= 0 && p < size && o >= 0 && o < size && p != o
                    && model.productions.get(p).head() == model.productions.get(o).head();
            if (fits) {
                break;
            }
        }
        for (int i = 0; i < 3; i++) {
            stands[i] = i < children(o) ? index(children(p)) : chance.nextInt(spoil) == 0 ? chance.nextInt(4) - 1 : 0;
        }
        int production = p;
        int other = o;
        check("forward(" + p + ", " + o + ", " + stands[0] + ", " + stands[1] + ", " + stands[2] + ")",
                (r, m) -> r != null ? r.forward(production, other, stands[0], stands[1], stands[2])
                        : m.forward(production, other, stands[0], stands[1], stands[2]));
    }

    private boolean fitsRule(int p, int o) {
        int size = model.productions.size();
        if (p < 0 || o < 0 || p >= size || o >= size || p == o) {
            return false;
        }
        Model.Production x = model.productions.get(p);
        Model.Production y = model.productions.get(o);
        return x.head() == y.head() && x.children().equals(y.children()) && x.letters().size() == y.letters().size();
    }

    private void rule() {
        int size = model.productions.size();
        int p = index(size);
        int o = index(size);
        for (int tries = 0; tries < 40 && !fitsRule(p, o) && chance.nextInt(spoil) > 0; tries++) {
            p = index(size);
            o = index(size);
        }
        int a = index(model.kinds.size());
        int production = p;
        int other = o;
        check("rule(" + p + ", " + a + ", " + o + ")", (r, m) -> r != null
                ? r.rule(production, a, other) : m.rule(production, a, other));
    }

    private void attribute() {
        int sum = kindOdds[0] + kindOdds[1] + kindOdds[2] + kindOdds[3];
        int at = chance.nextInt(sum);
        int kind = 0;
        while (at >= kindOdds[kind]) {
            at -= kindOdds[kind];
            kind++;
        }
        int k = chance.nextInt(spoil) == 0 ? chance.nextInt(8) - 2 : kind;
        check("attribute(" + k + ")", (r, m) -> r != null ? r.attribute(k) : m.attribute(k));
    }

    private void step(int kind, int a, int b) {
        check("step(" + kind + ", " + a + ", " + b + ")", (r, m) -> r != null ? r.step(kind, a, b) : m.step(kind, a, b));
    }

    private void wildStep() {
        int kind = index(15);
        int a = kind == 0 ? index(1000) : kind == 1 || kind == 2 || kind == 7 ? index(model.kinds.size())
                : kind == 3 || kind == 4 ? index(3) : chance.nextInt(spoil) == 0 ? 1 : 0;
        int b = kind == 2 || kind == 6 ? index(3) : chance.nextInt(spoil) == 0 ? 1 : 0;
        step(kind, a, b);
    }

    /** Tells an expression of some steps at most; answers how many it told. */
    private int expression(int most, boolean reference) {
        if (reference && chance.nextInt(3) > 0 || most < 2 || chance.nextInt(tame ? 2 : 4) == 0) {
            leaf(reference);
            return 1;
        }
        int r = chance.nextInt(10);
        if (r < (tame ? 1 : 3)) {
            int used = expression(most - 1, true);
            step(7, upTo(model.kinds.size()), 0);
            return used + 1;
        }
        if (most < 3) {
            leaf(reference);
            return 1;
        }
        if (r < 8 || most < 4) {
            int used = expression(most - 2, false);
            used += expression(most - 1 - used, false);
            int kind = 8 + chance.nextInt(5);
            step(kind, 0, 0);
            return used + 1;
        }
        int used = expression(most - 3, false);
        used += expression(most - 2 - used, reference);
        used += expression(most - 1 - used, reference);
        step(13, 0, 0);
        return used + 1;
    }

    /** An attribute, mostly of one of two kinds. */
    private int attributeOf(int kind, int orKind) {
        int a = upTo(model.kinds.size());
        for (int tries = 0; tries < 5 && tame && a < model.kinds.size(); tries++) {
            int is = model.kinds.get(a);
            if (is == kind || is == orKind) {
                return a;
            }
            a = upTo(model.kinds.size());
        }
        return a;
    }

    private void leaf(boolean reference) {
        int children = children(drafted);
        int child = tame && chance.nextInt(10) > 0 ? upTo(children) : chance.nextInt(3);
        if (reference) {
            boolean self = tame ? children == 0 || chance.nextBoolean() : chance.nextBoolean();
            step(self ? 5 : 6, 0, self ? 0 : child);
            return;
        }
        int letters = drafted >= 0 && drafted < model.productions.size() ? model.productions.get(drafted).letters().size() : 0;
        int letter = tame ? upTo(letters) : chance.nextInt(4) == 0 ? chance.nextInt(3) : 0;
        int pick = chance.nextInt(14);
        if (pick < 3 || tame && letters == 0 && (pick == 9 || pick == 10) || tame && children == 0 && pick > 5 && pick < 9) {
            step(0, chance.nextInt(3) == 0 ? chance.nextInt(1000) : chance.nextInt(3), 0);
        } else if (pick < 6) {
            step(1, chance.nextInt(3) == 0 ? attributeOf(1, 2) : attributeOf(0, 3), 0);
        } else if (pick < 9) {
            step(2, attributeOf(0, chance.nextBoolean() ? 3 : 2), child);
        } else if (pick < 11) {
            step(pick == 9 ? 3 : 4, letter, 0);
        } else if (pick == 11) {
            step(chance.nextInt(4) == 0 ? 5 : 14, 0, 0);
        } else if (pick == 12) {
            step(6, 0, child);
        } else {
            step(0, 1, 0);
        }
    }

    private void dropSteps() {
        check("dropSteps()", (r, m) -> r != null ? r.dropSteps() : m.dropSteps());
    }

    private void tellEquation(int p, int a, int target, int aspect) {
        check("equation(" + p + ", " + a + ", " + target + ", " + aspect + ")", (r, m) -> r != null
                ? r.equation(p, a, target, aspect) : m.equation(p, a, target, aspect));
    }

    /** Mostly a target for which there is no equation yet. */
    private int[] openTarget() {
        int[] target = new int[3];
        for (int tries = 0; tries < 10; tries++) {
            target[0] = index(model.productions.size());
            target[1] = index(model.kinds.size());
            int kind = target[1] >= 0 && target[1] < model.kinds.size() ? model.kinds.get(target[1]) : 0;
            target[2] = kind == 2 ? -2 : kind == 1 ? index(children(target[0])) : -1;
            boolean taken = false;
            for (Model.Equation e : model.equations) {
                taken |= e.production() == target[0] && e.attribute() == target[1] && e.target() == target[2] && target[2] != -2;
            }
            if (!taken && (kind != 1 || children(target[0]) > 0)) {
                return target;
            }
        }
        return target;
    }

    private void equation() {
        if (!model.draft.isEmpty() && chance.nextInt(4) > 0) {
            dropSteps();
        }
        int[] open = openTarget();
        int p = open[0];
        int a = open[1];
        int kind = a >= 0 && a < model.kinds.size() ? model.kinds.get(a) : 0;
        int target = open[2];
        if (chance.nextInt(8) == 0) {
            p = index(model.productions.size());
        }
        if (chance.nextInt(spoil) == 0) {
            target = chance.nextInt(7) - 4;
        }
        drafted = p;
        if (kind == 2) {
            int used = chance.nextInt(3) > 0 ? expression(2, true) : expression(4, true);
            expression(8 - used, false);
        } else {
            expression(chance.nextInt(3) == 0 ? 8 : tame ? 3 : 4, false);
        }
        if (chance.nextInt(spoil) == 0) {
            wildStep();
        }
        tellEquation(p, a, target, dense && chance.nextInt(3) > 0 ? 0 : chance.nextInt(spoil) == 0 ? index(4) : chance.nextInt(3) == 0 ? chance.nextInt(4) : 0);
    }

    private void toggle() {
        int aspect = index(4);
        check("toggle(" + aspect + ")", (r, m) -> (r != null ? r.toggle(aspect) : m.toggle(aspect)) ? 1 : 0);
    }

    private void conflicts() {
        check("conflicts()", (r, m) -> r != null ? r.conflicts() : m.conflicts());
    }

    private void ringIn() {
        check("ringIn()", (r, m) -> r != null ? r.ringIn() : m.ringIn());
    }

    private void insert() {
        int place = index(model.text.size() + 1);
        int letter = chance.nextInt(spoil) == 0 ? 95 + chance.nextInt(10)
                : 97 + chance.nextInt(chance.nextInt(growing ? 12 : 3) == 0 ? 6 : growing ? 2 : 3);
        check("insert(" + place + ", " + letter + ")", (r, m) -> r != null ? r.insert(place, letter) : m.insert(place, letter));
    }

    private void delete() {
        int place = index(model.text.size());
        check("delete(" + place + ")", (r, m) -> r != null ? r.delete(place) : m.delete(place));
    }

    private void read() {
        check("read()", (r, m) -> r != null ? r.read() : m.read());
    }

    private void change() {
        if (chance.nextInt(6) == 0) {
            read();
        } else if (model.text.size() < maxText && chance.nextInt(5) > 1) {
            insert();
        } else {
            delete();
        }
        check("cost()", (r, m) -> r != null ? r.cost() : m.cost());
    }

    private void node() {
        int n = index(model.nodes.size());
        check("node(" + n + ")", (r, m) -> r != null ? r.node(n) : m.node(n));
    }

    private void rewrite() {
        int n = index(model.nodes.size());
        check("rewrite(" + n + ")", (r, m) -> r != null ? r.rewrite(n) : m.rewrite(n));
    }

    private void ask() {
        int n = index(model.nodes.size());
        int a = index(model.kinds.size());
        check("value(" + n + ", " + a + ")", (r, m) -> r != null ? r.value(n, a) : m.value(n, a));
    }

    private void askAnew() {
        int n = index(model.nodes.size());
        int a = index(model.kinds.size());
        check("valueAnew(" + n + ", " + a + ")", (r, m) -> r != null ? r.valueAnew(n, a) : m.valueAnew(n, a));
    }

    private void isKept() {
        int n = index(model.nodes.size());
        int a = index(model.kinds.size());
        check("isKept(" + n + ", " + a + ")", (r, m) -> (r != null ? r.isKept(n, a) : m.isKept(n, a)) ? 1 : 0);
    }

    private void found() {
        check("found()", (r, m) -> r != null ? r.found() : m.found());
    }

    private void why() {
        int n = index(model.nodes.size());
        int a = index(model.kinds.size());
        for (int tries = 0; tries < 6 && !reads(n, a); tries++) {
            n = index(model.nodes.size());
            a = index(model.kinds.size());
        }
        tellWhy(n, a, chance.nextInt(3) == 0 ? chance.nextInt(6) : index(2));
    }

    private boolean reads(int n, int a) {
        try {
            model.why(n, a, 0);
            return true;
        } catch (IndexOutOfBoundsException e) {
            return false;
        }
    }

    private void tellWhy(int n, int a, int read) {
        check("why(" + n + ", " + a + ", " + read + ")", (r, m) -> r != null ? r.why(n, a, read) : m.why(n, a, read));
    }

    private void keptRow() {
        for (int n = 0; n < model.nodes.size() && n < 12; n++) {
            for (int a = 0; a < model.kinds.size(); a++) {
                int node = n;
                int attribute = a;
                if (chance.nextInt(3) == 0) {
                    check("isKept(" + n + ", " + a + ")", (r, m) -> (r != null
                            ? r.isKept(node, attribute) : m.isKept(node, attribute)) ? 1 : 0);
                }
            }
        }
        found();
    }

    private void anyCall() {
        int r = chance.nextInt(100);
        if (r < 3) {
            grammarCall();
        } else if (r < 20) {
            change();
        } else if (r < 27) {
            rewrite();
        } else if (r < 32) {
            node();
        } else if (r < 65) {
            ask();
            found();
        } else if (r < 75) {
            askAnew();
        } else if (r < 88) {
            why();
        } else if (r < 97) {
            isKept();
        } else {
            keptRow();
        }
    }

    private void grammarCall() {
        switch (chance.nextInt(11)) {
            case 0:
                production();
                break;
            case 1:
                forward();
                break;
            case 2:
                rule();
                break;
            case 3:
                attribute();
                break;
            case 4:
                wildStep();
                break;
            case 5:
                dropSteps();
                break;
            case 6:
            case 7:
                equation();
                break;
            case 8:
                toggle();
                break;
            case 9:
                conflicts();
                break;
            default:
                ringIn();
                break;
        }
    }

    private void go() {
        int productions = growing ? chance.nextInt(2) : 1 + chance.nextInt(10);
        int attributes = 1 + chance.nextInt(dense ? 4 : 6);
        if (growing) {
            growingGrammar();
        }
        for (int i = 0; i < productions; i++) {
            production();
        }
        for (int i = 0; i < attributes; i++) {
            attribute();
        }
        int forwards = chance.nextInt(6);
        for (int i = 0; i < forwards; i++) {
            forward();
        }
        int equations = (dense ? 12 : 3) + chance.nextInt(dense ? 18 : 25);
        for (int i = 0; i < equations; i++) {
            equation();
        }
        int rules = chance.nextInt(6);
        for (int i = 0; i < rules; i++) {
            rule();
        }
        conflicts();
        ringIn();
        int letters = growing ? maxText : chance.nextInt(maxText + 1);
        for (int i = 0; i < letters; i++) {
            insert();
        }
        read();
        while (calls < CALLS && !wrong) {
            anyCall();
        }
    }
}
