import java.util.ArrayList;
import java.util.List;

/**
 * "If several apply, IndexOutOfBoundsException goes first, then IllegalArgumentException. A call that throws an
 * exception changes nothing." Every call is made with all arguments at their edges, in several states, and
 * where the document wants an exception, it has to be that one; behind that the object has to show the same
 * as one of which these calls have not been made.
 */
public final class RefusedTest {
    private static final int LOW = Integer.MIN_VALUE;
    private static final int HIGH = Integer.MAX_VALUE;
    private static final int NOTHING = 0;
    private static final int PLACE = 1;
    private static final int ARGUMENT = 2;
    private static final int NOT_NOW = 3;
    private static final Class<?>[] THROWN = {null, IndexOutOfBoundsException.class, IllegalArgumentException.class,
        IllegalStateException.class};
    // An object is used for at most 512 calls: to make it, to refuse these, and to show what it is then.
    private static final int AT_ONCE = 60;

    private interface Call {
        long on(AttribArbor x);
    }

    private record Refused(String name, int due, Call call) { }

    /** What an object has been told, by what the document counts. */
    private abstract static class State {
        final int[][] productions;
        final int[] kinds;
        int standing;
        int steps;
        int equations;
        int letters;
        int nodes;

        State(int[][] productions, int... kinds) {
            this.productions = productions;
            this.kinds = kinds;
        }

        abstract void tell(Told t);

        AttribArbor make() {
            Told t = new Told();
            for (int[] p : productions) {
                t.x.production(p[0], p[1], p[2], p[3]);
            }
            for (int kind : kinds) {
                t.x.attribute(kind);
            }
            tell(t);
            return t.x;
        }

        boolean hasNoProduction(int p) {
            return p < 0 || p >= productions.length;
        }

        boolean hasNoAttribute(int a) {
            return a < 0 || a >= kinds.length;
        }

        /** The symbols of a production that are nonterminals, or those that are letters. */
        List<Integer> symbols(int production, boolean letters) {
            List<Integer> all = new ArrayList<>();
            for (int i = 1; i < 4; i++) {
                int symbol = productions[production][i];
                if (symbol >= 0 && symbol >= 4 == letters) {
                    all.add(symbol);
                }
            }
            return all;
        }
    }

    private static int[] p(int... row) {
        return row;
    }

    private static final class NewOne extends State {
        NewOne() {
            super(new int[][] {});
        }

        @Override
        void tell(Told t) {
        }
    }

    /** Productions that come to no end: a text without a tree, and a draft with two expressions. */
    private static final class NoTree extends State {
        NoTree() {
            super(new int[][] {p(0, 0, 4, -1), p(0, 4, 0, -1)}, 2, 1);
            standing = 2;
            steps = 8;
            letters = 2;
        }

        @Override
        void tell(Told t) {
            t.text("ab");
            t.self().number(1).number(2).add().number(3).add().number(4).add();
            t.x.forward(1, 0, 0, 0, 0);
        }
    }

    /** Some of all, with attributes that are kept and a node that is rewritten; the draft has one expression. */
    private static final class SomeOfAll extends State {
        SomeOfAll() {
            super(new int[][] {p(0, 1, 4, 1), p(0, 1, 5, 1), p(1, 4, -1, -1), p(0, -1, -1, -1), p(1, 5, -1, -1)}, 0, 1, 2, 3);
            standing = 1;
            steps = 3;
            equations = 6;
            letters = 3;
            nodes = 3;
        }

        @Override
        void tell(Told t) {
            t.child(0, 0).child(0, 1).add().up(1, 0);
            t.letter(0).up(2, 0);
            t.number(5).up(4, 0);
            t.own(3).down(0, 1, 1);
            t.at(0).number(3).gift(0, 2);
            t.number(2);
            t.x.equation(0, 3, -1, 2);
            t.x.toggle(1);
            t.x.forward(0, 1, 1, 0, 0);
            t.x.rule(2, 0, 4);
            t.x.rule(0, 1, 1);
            t.text("aaa");
            t.x.rewrite(1);
            for (int n = 0; n < 3; n++) {
                t.x.value(n, n);
                t.x.value(n, 0);
            }
            t.own(0).number(1).max();
        }
    }

    /** 10 productions, 6 attributes, 30 equations, 8 expressions in the draft, 12 letters. */
    private static final class Full extends State {
        Full() {
            super(new int[][] {p(0, 1, 2, 3), p(1, 4, 4, 4), p(2, 5, 5, 5), p(3, 6, 6, 6), p(0, 1, 2, 2), p(0, 1, 1, 1),
                p(1, 5, 5, 5), p(2, -1, -1, -1), p(0, 1, 2, 3), p(3, 9, 9, 9)}, 0, 1, 2, 3, 0, 1);
            standing = 8;
            steps = 8;
            equations = 30;
            letters = 12;
            nodes = 4;
        }

        @Override
        void tell(Told t) {
            for (int i = 0; i < 30; i++) {
                int production = i % 10;
                int attribute = new int[] {0, 4, 3}[i / 10];
                t.number(i);
                t.x.equation(production, attribute, -1, i % 4);
            }
            t.x.forward(0, 8, 0, 1, 2);
            t.x.forward(4, 5, 0, 0, 0);
            t.x.rule(1, 0, 6);
            t.x.rule(0, 4, 8);
            t.text("aaaabbbbcccc");
            t.x.value(0, 0);
            t.x.value(3, 4);
            t.x.value(2, 5);
            t.x.rewrite(1);
            for (int i = 0; i < 8; i++) {
                t.number(i);
            }
        }
    }

    // ---- which exception is due

    private static boolean isSymbol(int symbol) {
        return symbol >= -1 && symbol <= 9;
    }

    private static int dueOfProduction(State s, int n, int[] symbols) {
        if (n < 0 || n > 3) {
            return PLACE;
        }
        boolean fits = isSymbol(symbols[0]) && isSymbol(symbols[1]) && isSymbol(symbols[2])
                && (symbols[0] >= 0 || symbols[1] == -1) && (symbols[1] >= 0 || symbols[2] == -1);
        return !fits ? ARGUMENT : s.productions.length == 10 ? NOT_NOW : NOTHING;
    }

    private static int dueOfForward(State s, int production, int other, int[] stands) {
        if (s.hasNoProduction(production) || other != -1 && s.hasNoProduction(other)) {
            return PLACE;
        }
        List<Integer> mine = s.symbols(production, false);
        List<Integer> due = other == -1 ? List.of() : s.symbols(other, false);
        boolean fits = other != production && (other == -1 || s.productions[other][0] == s.productions[production][0]);
        for (int i = 0; i < 3; i++) {
            if (i >= due.size()) {
                fits &= stands[i] == 0;
            } else if (stands[i] < 0 || stands[i] >= mine.size()) {
                return PLACE;
            } else {
                fits &= mine.get(stands[i]).equals(due.get(i));
            }
        }
        return fits ? NOTHING : ARGUMENT;
    }

    private static int dueOfRule(State s, int production, int attribute, int other) {
        if (s.hasNoProduction(production) || s.hasNoProduction(other) || s.hasNoAttribute(attribute)) {
            return PLACE;
        }
        boolean fits = production != other && s.productions[production][0] == s.productions[other][0]
                && s.symbols(production, false).equals(s.symbols(other, false))
                && s.symbols(production, true).size() == s.symbols(other, true).size();
        return fits ? NOTHING : ARGUMENT;
    }

    private static int dueOfStep(State s, int kind, int a, int b) {
        boolean attribute = kind == 1 || kind == 2 || kind == 7;
        if (attribute && s.hasNoAttribute(a)) {
            return PLACE;
        }
        int mostA = attribute ? HIGH : kind == 0 ? 999 : kind == 3 || kind == 4 ? 2 : 0;
        int mostB = kind == 2 || kind == 6 ? 2 : 0;
        if (kind < 0 || kind > 14 || a < 0 || a > mostA || b < 0 || b > mostB) {
            return ARGUMENT;
        }
        int takes = kind == 13 ? 3 : kind >= 8 && kind <= 12 ? 2 : kind == 7 ? 1 : 0;
        return s.standing < takes || s.steps == 8 ? NOT_NOW : NOTHING;
    }

    private static int dueOfEquation(State s, int production, int attribute, int target, int aspect) {
        if (s.hasNoProduction(production) || s.hasNoAttribute(attribute) || aspect < 0 || aspect > 3
                || target >= s.symbols(production, false).size()) {
            return PLACE;
        }
        int kind = s.kinds[attribute];
        boolean goes = kind == 1 ? target >= 0 : target == (kind == 2 ? -2 : -1);
        if (!goes) {
            return ARGUMENT;
        }
        return s.standing != (kind == 2 ? 2 : 1) || s.equations == 30 ? NOT_NOW : NOTHING;
    }

    // ---- all that is refused

    private static void add(List<Refused> all, String name, int due, Call call) {
        if (due != NOTHING) {
            all.add(new Refused(name, due, call));
        }
    }

    private static int[] around(int count) {
        return count == 0 ? new int[] {LOW, -2, -1, 0, 1, HIGH}
                : count == 1 ? new int[] {LOW, -2, -1, 0, 1, 2, HIGH} : new int[] {LOW, -2, -1, 0, count - 1, count, count + 1, HIGH};
    }

    private static void grammarCalls(State s, List<Refused> all) {
        int[] symbols = {LOW, -2, -1, 0, 3, 4, 9, 10, HIGH};
        for (int n : new int[] {LOW, -1, 0, 3, 4, HIGH}) {
            for (int i = 0; i < 9 * 9 * 9; i++) {
                int[] row = {symbols[i / 81], symbols[i / 9 % 9], symbols[i % 9]};
                add(all, "production(" + n + ", " + row[0] + ", " + row[1] + ", " + row[2] + ")", dueOfProduction(s, n, row),
                        x -> x.production(n, row[0], row[1], row[2]));
            }
        }
        int[] children = {-1, 0, 1, 2, 3};
        for (int production : around(s.productions.length)) {
            for (int other : around(s.productions.length)) {
                for (int i = 0; i < 125; i++) {
                    int[] row = {children[i / 25], children[i / 5 % 5], children[i % 5]};
                    add(all, "forward(" + production + ", " + other + ", " + row[0] + ", " + row[1] + ", " + row[2] + ")",
                            dueOfForward(s, production, other, row), x -> x.forward(production, other, row[0], row[1], row[2]));
                }
                for (int attribute : around(s.kinds.length)) {
                    add(all, "rule(" + production + ", " + attribute + ", " + other + ")",
                            dueOfRule(s, production, attribute, other), x -> x.rule(production, attribute, other));
                }
            }
        }
        for (int kind = -2; kind < 7; kind++) {
            int k = kind == -2 ? LOW : kind == 6 ? HIGH : kind;
            add(all, "attribute(" + k + ")", k < 0 || k > 3 ? ARGUMENT : s.kinds.length == 6 ? NOT_NOW : NOTHING, x -> x.attribute(k));
        }
        for (int aspect : around(4)) {
            add(all, "toggle(" + aspect + ")", aspect < 0 || aspect > 3 ? PLACE : NOTHING, x -> x.toggle(aspect) ? 1 : 0);
        }
    }

    private static void equationCalls(State s, List<Refused> all) {
        for (int kind = -2; kind < 18; kind++) {
            int k = kind == -2 ? LOW : kind == 17 ? HIGH : kind;
            for (int a : new int[] {LOW, -1, 0, 1, 2, 3, s.kinds.length - 1, s.kinds.length, 999, 1000, HIGH}) {
                for (int b : new int[] {LOW, -1, 0, 1, 2, 3, HIGH}) {
                    add(all, "step(" + k + ", " + a + ", " + b + ")", dueOfStep(s, k, a, b), x -> x.step(k, a, b));
                }
            }
        }
        for (int production : around(s.productions.length)) {
            for (int attribute : around(s.kinds.length)) {
                for (int target : new int[] {LOW, -3, -2, -1, 0, 1, 2, 3, HIGH}) {
                    for (int aspect : new int[] {-1, 0, 3, 4}) {
                        add(all, "equation(" + production + ", " + attribute + ", " + target + ", " + aspect + ")",
                                dueOfEquation(s, production, attribute, target, aspect),
                                x -> x.equation(production, attribute, target, aspect));
                    }
                }
            }
        }
    }

    private static void textCalls(State s, List<Refused> all) {
        boolean none = s.productions.length == 0;
        for (int place : around(s.letters + 1)) {
            boolean exists = place >= 0 && place <= s.letters;
            for (int letter : new int[] {LOW, -1, 0, 96, 97, 102, 103, HIGH}) {
                boolean fits = letter >= 97 && letter <= 102;
                boolean now = s.letters < 12 && !none;
                add(all, "insert(" + place + ", " + letter + ")", !exists ? PLACE : !fits ? ARGUMENT : !now ? NOT_NOW : NOTHING,
                        x -> x.insert(place, letter));
            }
        }
        for (int place : around(s.letters)) {
            boolean exists = place >= 0 && place < s.letters;
            add(all, "delete(" + place + ")", !exists ? PLACE : none ? NOT_NOW : NOTHING, x -> x.delete(place));
        }
        add(all, "read()", none ? NOT_NOW : NOTHING, AttribArbor::read);
    }

    private static void askingCalls(State s, List<Refused> all) {
        for (int node : around(s.nodes)) {
            boolean exists = node >= 0 && node < s.nodes;
            add(all, "node(" + node + ")", exists ? NOTHING : PLACE, x -> x.node(node));
            add(all, "rewrite(" + node + ")", exists ? NOTHING : PLACE, x -> x.rewrite(node));
            for (int attribute : around(s.kinds.length)) {
                String at = "(" + node + ", " + attribute + ")";
                int due = exists && !s.hasNoAttribute(attribute) ? NOTHING : PLACE;
                add(all, "value" + at, due, x -> x.value(node, attribute));
                add(all, "valueAnew" + at, due, x -> x.valueAnew(node, attribute));
                add(all, "isKept" + at, due, x -> x.isKept(node, attribute) ? 1 : 0);
                // No attribute of any of these states has 200 reads.
                for (int read : new int[] {LOW, -1, 0, 200, HIGH}) {
                    int dueOfRead = read < 0 || read >= 200 ? PLACE : due;
                    add(all, "why" + at + " " + read, dueOfRead, x -> x.why(node, attribute, read));
                }
            }
        }
    }

    // ---- what an object shows

    private static void show(StringBuilder picture, Call call, AttribArbor x) {
        try {
            picture.append(call.on(x)).append(' ');
        } catch (IndexOutOfBoundsException | IllegalArgumentException | IllegalStateException e) {
            picture.append(e.getClass().getSimpleName().charAt(1)).append(e.getClass().getSimpleName().charAt(7)).append(' ');
        }
    }

    private static String picture(State s, AttribArbor x) {
        StringBuilder picture = new StringBuilder();
        for (int n = 0; n <= s.nodes; n++) {
            int node = n;
            show(picture, y -> y.node(node), x);
            for (int a = 0; a < s.kinds.length; a++) {
                int attribute = a;
                show(picture, y -> y.isKept(node, attribute) ? 1 : 0, x);
                show(picture, y -> y.valueAnew(node, attribute), x);
                show(picture, y -> y.why(node, attribute, 0), x);
            }
        }
        picture.append('\n');
        show(picture, AttribArbor::found, x);
        show(picture, AttribArbor::cost, x);
        show(picture, AttribArbor::conflicts, x);
        show(picture, AttribArbor::ringIn, x);
        for (int n = 0; n < s.nodes; n++) {
            int node = n;
            show(picture, y -> y.rewrite(node), x);
            for (int a = 0; a < s.kinds.length; a++) {
                int attribute = a;
                show(picture, y -> y.value(node, attribute), x);
            }
        }
        picture.append('\n');
        show(picture, AttribArbor::found, x);
        show(picture, AttribArbor::read, x);
        for (int i = 0; i <= s.letters; i++) {
            show(picture, y -> y.delete(0), x);
            show(picture, AttribArbor::cost, x);
        }
        showGrammar(s, x, picture);
        return picture.toString();
    }

    private static void showGrammar(State s, AttribArbor x, StringBuilder picture) {
        picture.append('\n');
        show(picture, y -> y.step(0, 7, 0), x);
        show(picture, AttribArbor::dropSteps, x);
        for (int p = 0; p < s.productions.length; p++) {
            int production = p;
            show(picture, y -> y.forward(production, -1, 0, 0, 0), x);
            for (int o = 0; o < s.productions.length && dueOfRule(s, p, 0, o) != NOTHING; o++) {
                int next = o + 1;
                if (next < s.productions.length && dueOfRule(s, p, 0, next) == NOTHING) {
                    show(picture, y -> y.rule(production, 0, next), x);
                }
            }
        }
        for (int aspect = 0; aspect < 4; aspect++) {
            int a = aspect;
            show(picture, y -> y.toggle(a) ? 1 : 0, x);
        }
        show(picture, y -> y.production(0, -1, -1, -1), x);
        show(picture, y -> y.attribute(0), x);
        show(picture, y -> y.step(0, 7, 0), x);
        show(picture, y -> y.equation(0, 0, -1, 0), x);
        show(picture, y -> y.equation(0, 1, 0, 0), x);
    }

    /** The counts of a state are what its object has: the last of each is there. */
    private static void isAsTold(String name, State s) {
        AttribArbor x = s.make();
        if (s.nodes > 0) {
            Due.is(name + ": the last node", x.node(s.nodes - 1) / 1000 < s.nodes, true);
            Due.is(name + ": something is kept", x.found() > 0, true);
        }
        Due.noPlace(name + ": no more nodes", () -> x.node(s.nodes));
        Due.is(name + ": steps", x.dropSteps(), s.steps);
        if (s.letters > 0) {
            Due.is(name + ": the last letter", x.delete(s.letters - 1) >= 0, true);
            Due.noPlace(name + ": it was the last one", () -> x.delete(s.letters - 1));
        }
        if (s.equations > 0 && s.equations < 30) {
            x.step(0, 1, 0);
            Due.is(name + ": equations", x.equation(0, 0, -1, 0), s.equations);
        }
        if (s.kinds.length > 0 && s.kinds.length < 6) {
            Due.is(name + ": attributes", x.attribute(0), s.kinds.length);
        }
        if (s.productions.length < 10) {
            Due.is(name + ": productions", x.production(0, -1, -1, -1), s.productions.length);
        }
    }

    private static void sweep(State s) {
        String name = s.getClass().getSimpleName();
        isAsTold(name, s);
        List<Refused> all = new ArrayList<>();
        grammarCalls(s, all);
        equationCalls(s, all);
        textCalls(s, all);
        askingCalls(s, all);
        String due = picture(s, s.make());
        for (int from = 0; from < all.size(); from += AT_ONCE) {
            AttribArbor x = s.make();
            List<Refused> some = all.subList(from, Math.min(all.size(), from + AT_ONCE));
            for (Refused r : some) {
                Due.isThrown(name + ": " + r.name(), THROWN[r.due()].asSubclass(RuntimeException.class), () -> r.call().on(x));
            }
            String got = picture(s, x);
            if (!got.equals(due)) {
                System.out.println(name + ": shows\n" + got + "\nwhere due is\n" + due);
            }
            Due.is(name + ": nothing has changed behind " + some.get(0).name() + " and those that follow", got.equals(due), true);
        }
        System.out.println("RefusedTest: " + name + ", " + all.size() + " refused calls");
    }

    public static void main(String[] args) {
        sweep(new NewOne());
        sweep(new NoTree());
        sweep(new SomeOfAll());
        sweep(new Full());
        Due.end("RefusedTest");
    }
}
