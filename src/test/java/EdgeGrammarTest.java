/**
 * Promises 1 to 11 at their boundaries: for each sentence of the document that names one, the last
 * argument or number that is allowed, the first that is not, and what a refused call leaves as it was.
 */
public final class EdgeGrammarTest {
    private static final int LOW = Integer.MIN_VALUE;
    private static final int HIGH = Integer.MAX_VALUE;

    private static Told withProductions(int many, int... symbols) {
        Told t = new Told();
        for (int i = 0; i < many; i++) {
            t.production(0, symbols);
        }
        return t;
    }

    // "Creates a generator without productions, attributes and equations, and an empty text."
    private static void aNewOne() {
        AttribArbor x = new AttribArbor();
        Due.noPlace("new: no production to forward", () -> x.forward(0, -1, 0, 0, 0));
        Due.noPlace("new: no production for a rule", () -> x.rule(0, 0, 1));
        Due.noPlace("new: no attribute to step", () -> x.step(1, 0, 0));
        Due.noPlace("new: no letter", () -> x.delete(0));
        Due.is("new: the stack is empty", x.step(0, 0, 0), 1);
        Due.is("new: one production", x.production(0, -1, -1, -1), 0);
        Due.noPlace("new: still no attribute", () -> x.equation(0, 0, -1, 0));
        Due.is("new: one attribute", x.attribute(0), 0);
        Due.is("new: the first equation", x.equation(0, 0, -1, 0), 0);
        Due.noPlace("new: isKept", () -> x.isKept(0, 0) ? 1 : 0);
        Due.noPlace("new: valueAnew", () -> x.valueAnew(0, 0));
        Due.noPlace("new: why", () -> x.why(0, 0, 0));
        Due.is("new: the text is empty", x.read(), 100);
        Due.is("new: nothing to leave out", x.cost(), 0);
        Due.is("new: two objects have nothing in common", new AttribArbor().production(0, -1, -1, -1), 0);
    }

    // "There are the nonterminals 0 to 3"
    private static void nonterminals() {
        AttribArbor x = new AttribArbor();
        for (int bad : new int[] {LOW, -2, -1, 4, 5, HIGH}) {
            Due.noPlace("nonterminal " + bad, () -> x.production(bad, -1, -1, -1));
        }
        for (int n = 0; n < 4; n++) {
            Due.is("nonterminal " + n, x.production(n, -1, -1, -1), n);
        }
    }

    // "A symbol is a nonterminal, 0 to 3, or a letter, told as 4 to 9."
    private static void symbols() {
        for (int place = 0; place < 3; place++) {
            AttribArbor x = new AttribArbor();
            for (int symbol = 0; symbol < 10; symbol++) {
                int[] s = {place > 0 ? 0 : symbol, place == 1 ? symbol : place == 2 ? 0 : -1, place == 2 ? symbol : -1};
                Due.is("symbol " + symbol + " at " + place, x.production(0, s[0], s[1], s[2]), symbol);
            }
        }
        for (int bad : new int[] {LOW, -2, 10, 11, 97, HIGH}) {
            AttribArbor x = new AttribArbor();
            Due.badArgument("symbol " + bad + " first", () -> x.production(0, bad, -1, -1));
            Due.badArgument("symbol " + bad + " first of three", () -> x.production(0, bad, 1, 1));
            Due.badArgument("symbol " + bad + " second", () -> x.production(0, 9, bad, -1));
            Due.badArgument("symbol " + bad + " third", () -> x.production(0, 9, 9, bad));
            Due.badArgument("symbol " + bad + " behind none", () -> x.production(0, -1, bad, -1));
            Due.is("symbol " + bad + ": none was added", x.production(0, -1, -1, -1), 0);
        }
    }

    // "second: likewise; -1 if first is", "third: likewise; -1 if second is"
    private static void noMoreSymbols() {
        AttribArbor x = new AttribArbor();
        for (int symbol : new int[] {0, 3, 4, 9}) {
            Due.badArgument("second " + symbol + " behind none", () -> x.production(0, -1, symbol, -1));
            Due.badArgument("third " + symbol + " behind none", () -> x.production(0, -1, -1, symbol));
            Due.badArgument("third " + symbol + " behind no second", () -> x.production(0, 4, -1, symbol));
            Due.badArgument("both " + symbol + " behind none", () -> x.production(0, -1, symbol, symbol));
        }
        Due.is("none, none, none", x.production(0, -1, -1, -1), 0);
        Due.is("one", x.production(0, 0, -1, -1), 1);
        Due.is("two", x.production(0, 0, 0, -1), 2);
        Due.is("three", x.production(0, 0, 0, 0), 3);
    }

    // "A production has a nonterminal and 0 to 3 symbols"; "numbered from 0 in their order"
    private static void children() {
        int[][] rows = {{}, {4}, {4, 4}, {4, 4, 4}, {1}, {1, 4}, {4, 1}, {1, 1}, {1, 4, 1}, {1, 1, 1}};
        int[] many = {0, 0, 0, 0, 1, 1, 1, 2, 2, 3};
        for (int i = 0; i < rows.length; i++) {
            Told t = new Told();
            t.production(0, rows[i]);
            t.production(1);
            t.x.read();
            Due.is("children " + i, t.x.node(0), many[i]);
        }
        Told t = new Told();
        t.production(0, 4, 1, 5);
        t.production(0, 1, 6, 2);
        t.production(1);
        t.production(2);
        for (int i = 0; i < 4; i++) {
            t.x.attribute(Told.UP);
        }
        t.letter(0).up(0, 0);
        t.letter(1).up(0, 1);
        t.letter(2).up(0, 2);
        t.at(1).child(3, 0).same().up(0, 3);
        t.kind().up(2, 3);
        t.text("ab");
        Due.is("letter 0 of \"a\" 1 \"b\"", t.x.value(0, 0), 1);
        Due.is("letter 1 of \"a\" 1 \"b\"", t.x.value(0, 1), 2);
        Due.is("letter 2 of \"a\" 1 \"b\"", t.x.value(0, 2), -1);
        Due.is("child 1 of \"a\" 1 \"b\"", t.x.value(0, 3), -1);
        t = new Told();
        t.production(0, 1, 6, 2);
        t.production(1);
        t.production(2);
        t.x.attribute(Told.UP);
        t.child(0, 0).number(10).mul().child(0, 1).add().up(0, 0);
        t.kind().up(1, 0);
        t.kind().up(2, 0);
        t.text("c");
        Due.is("the children of 1 \"c\" 2", t.x.value(0, 0), 12);
    }

    // "productions are numbered from 0, at most 10"; "Throws IllegalStateException if there are 10"
    private static void tenProductions() {
        Told t = new Told();
        AttribArbor x = t.x;
        for (int i = 0; i < 9; i++) {
            Due.is("production " + i, x.production(i % 4, 4, -1, -1), i);
        }
        Due.noPlace("the 10th is not there yet", () -> x.forward(9, -1, 0, 0, 0));
        Due.is("production 9", x.production(0, 5, -1, -1), 9);
        for (int nonterminal = 0; nonterminal < 4; nonterminal++) {
            int n = nonterminal;
            Due.notNow("the 11th, " + n, () -> x.production(n, -1, -1, -1));
        }
        Due.noPlace("the 11th: nonterminal first", () -> x.production(4, 10, -1, -1));
        Due.badArgument("the 11th: symbol next", () -> x.production(0, 10, -1, -1));
        Due.badArgument("the 11th: symbol behind none", () -> x.production(3, -1, 4, -1));
        Due.noPlace("there is no 11th", () -> x.forward(10, -1, 0, 0, 0));
        Due.is("the 10th is there", x.forward(9, -1, 0, 0, 0), -1);
        x.attribute(Told.UP);
        t.number(9).up(9, 0);
        t.text("b");
        Due.is("the 10th is read", x.node(0), 90);
        Due.is("the 10th has an equation", x.value(0, 0), 9);
    }

    // "Attributes are numbered from 0, at most 6." "kind: 0 to 3"; "IllegalStateException if there are 6"
    private static void sixAttributes() {
        AttribArbor x = new AttribArbor();
        x.production(0, -1, -1, -1);
        for (int i = 0; i < 6; i++) {
            int next = i;
            Due.badArgument("kind -1 ahead of " + i, () -> x.attribute(-1));
            Due.badArgument("kind 4 ahead of " + i, () -> x.attribute(4));
            Due.noPlace("attribute " + i + " is not there", () -> x.step(1, next, 0));
            Due.noPlace("no rule by attribute " + i, () -> x.rule(0, next, 0));
            Due.noPlace("no equation for attribute " + i, () -> x.equation(0, next, -1, 0));
            Due.is("attribute " + i, x.attribute(3 - i % 4), i);
            Due.is("attribute " + i + " is there", x.step(1, next, 0), i + 1);
        }
        for (int kind = 0; kind < 4; kind++) {
            int k = kind;
            Due.notNow("the 7th, " + k, () -> x.attribute(k));
        }
        for (int bad : new int[] {LOW, -1, 4, HIGH}) {
            Due.badArgument("the 7th: kind " + bad + " first", () -> x.attribute(bad));
        }
        Due.noPlace("there is no 7th", () -> x.step(1, 6, 0));
        x.read();
        Due.is("the 6th is asked, a GATHERED one", x.value(0, 5), 0);
        Due.noPlace("the 7th is not asked", () -> x.value(0, 6));
    }

    // "rule: IllegalArgumentException if other is the same, or the nonterminals, how many children and
    // letters there are, or the nonterminals of the children differ"
    private static void ruleShapes() {
        int[][] rows = {{0, 1, 4, 2}, {0, 1, 2, 4}, {0, 5, 1, 2}, {0, 1, 2}, {0, 1, 4, 4}, {0, 2, 4, 1}, {0, 1, 4, 1},
            {3, 1, 4, 2}, {0, 4, 4, 4}, {0, 1, 2, 2}};
        int[] fits = {1, 2};
        Told t = new Told();
        for (int[] row : rows) {
            t.x.production(row[0], row[1], row[2], row.length > 3 ? row[3] : -1);
        }
        t.x.attribute(Told.UP);
        int before = -1;
        for (int other = 0; other < 10; other++) {
            int o = other;
            if (other == fits[0] || other == fits[1]) {
                Due.is("rule: to " + other, t.x.rule(0, 0, other), before);
                before = other;
            } else {
                Due.badArgument("rule: not to " + other, () -> t.x.rule(0, 0, o));
            }
        }
        Due.is("rule: the last one that fits stands", t.x.rule(0, 0, 1), before);
        Told n = withProductions(3);
        n.x.attribute(Told.RING);
        Due.is("rule: nothing and nothing", n.x.rule(2, 0, 0), -1);
        Due.is("rule: there and back", n.x.rule(0, 0, 2), -1);
        for (int bad : new int[] {LOW, -2, -1, 3, HIGH}) {
            Due.noPlace("rule: production " + bad, () -> n.x.rule(bad, 0, 0));
            Due.noPlace("rule: other " + bad, () -> n.x.rule(0, 0, bad));
            Due.noPlace("rule: attribute " + bad, () -> n.x.rule(0, bad == 3 ? 1 : bad, 2));
            Due.noPlace("rule: other " + bad + " ahead of the same", () -> n.x.rule(0, bad == 3 ? 1 : bad, 0));
        }
        Due.is("rule: nothing was told", n.x.rule(0, 0, 1), 2);
        Due.is("rule: neither there", n.x.rule(2, 0, 1), 0);
    }

    // "forward: in place of what it forwarded to"; "-1 to forward no more"; "0 if it has no such one, or
    // other is -1"; "no such production, of either, or no such child"
    private static void forwardNumbers() {
        Told t = new Told();
        t.production(0, 1, 1, 1);
        t.production(0, 1, 1);
        t.production(0, 1);
        t.production(0);
        AttribArbor x = t.x;
        for (int bad : new int[] {LOW, -2, 4, 10, HIGH}) {
            Due.noPlace("forward: production " + bad, () -> x.forward(bad, 0, 0, 0, 0));
            Due.noPlace("forward: other " + bad, () -> x.forward(0, bad, 0, 0, 0));
            Due.noPlace("forward: other " + bad + ", numbers that are none", () -> x.forward(0, bad, 9, -9, 9));
        }
        Due.noPlace("forward: production -1", () -> x.forward(-1, -1, 0, 0, 0));
        int before = -1;
        for (int last = 0; last < 3; last++) {
            Due.is("forward: to one child, " + last, x.forward(0, 2, last, 0, 0), before);
            before = 2;
            Due.is("forward: to two children, " + last, x.forward(0, 1, last, last, 0), before);
            before = 1;
        }
        for (int bad : new int[] {LOW, -1, 3, HIGH}) {
            Due.noPlace("forward: child " + bad + " for 0", () -> x.forward(0, 1, bad, 0, 0));
            Due.noPlace("forward: child " + bad + " for 1", () -> x.forward(0, 1, 0, bad, 0));
            Due.badArgument("forward: " + bad + " for no child 2", () -> x.forward(0, 1, 0, 0, bad));
            Due.badArgument("forward: " + bad + " for no child 1", () -> x.forward(0, 2, 0, bad, 0));
            Due.badArgument("forward: " + bad + " for no child 0", () -> x.forward(0, 3, bad, 0, 0));
            Due.badArgument("forward: no more, first " + bad, () -> x.forward(0, -1, bad, 0, 0));
            Due.badArgument("forward: no more, second " + bad, () -> x.forward(0, -1, 0, bad, 0));
            Due.badArgument("forward: no more, third " + bad, () -> x.forward(0, -1, 0, 0, bad));
            Due.noPlace("forward: child " + bad + " ahead of a number that is not 0", () -> x.forward(0, 2, bad, 1, 1));
        }
        Due.badArgument("forward: 1 for no child 2", () -> x.forward(0, 1, 0, 0, 1));
        Due.badArgument("forward: 1 for no child 1", () -> x.forward(0, 2, 0, 1, 0));
        Due.badArgument("forward: 1 for no child 0", () -> x.forward(0, 3, 1, 0, 0));
        Due.noPlace("forward: child 1 of only one", () -> x.forward(2, 1, 0, 1, 0));
        Due.noPlace("forward: child 0 of none", () -> x.forward(3, 2, 0, 0, 0));
        Due.is("forward: two children stand for three", x.forward(1, 0, 1, 0, 1), -1);
        Due.is("forward: one child stands for three", x.forward(2, 0, 0, 0, 0), -1);
        Due.is("forward: nothing was told meanwhile", x.forward(0, 3, 0, 0, 0), 1);
        Due.is("forward: no children, but a forward", x.forward(0, -1, 0, 0, 0), 3);
    }

    // "other is the same, or of another nonterminal, a child stands for one of another nonterminal"
    private static void forwardFits() {
        Told t = new Told();
        t.production(0, 1, 2);
        t.production(0, 2, 1);
        t.production(3, 1, 2);
        t.production(0);
        t.production(3);
        AttribArbor x = t.x;
        Due.badArgument("forward: the same", () -> x.forward(0, 0, 0, 1, 0));
        Due.badArgument("forward: the same, without children", () -> x.forward(3, 3, 0, 0, 0));
        Due.badArgument("forward: another nonterminal", () -> x.forward(0, 2, 0, 1, 0));
        Due.badArgument("forward: another nonterminal, without children", () -> x.forward(0, 4, 0, 0, 0));
        Due.badArgument("forward: the first is of another", () -> x.forward(0, 1, 0, 0, 0));
        Due.badArgument("forward: the second is of another", () -> x.forward(0, 1, 1, 1, 0));
        Due.badArgument("forward: both are of others", () -> x.forward(0, 1, 0, 1, 0));
        Due.noPlace("forward: no such child ahead of another nonterminal", () -> x.forward(0, 2, 0, 2, 0));
        Due.noPlace("forward: no such child ahead of the same", () -> x.forward(0, 0, 0, 2, 0));
        Due.is("forward: both fit", x.forward(0, 1, 1, 0, 0), -1);
    }

    // "kind: 0 to 14", "a: 0 to 999 for NUMBER; an attribute for OWN, CHILD, OF; 0 to 2 for LETTER and PUT;
    // 0 otherwise", "b: 0 to 2 for CHILD and AT; 0 otherwise"
    private static void stepArguments() {
        int[] mostA = {999, 3, 3, 2, 2, 0, 0, 3, 0, 0, 0, 0, 0, 0, 0};
        int[] mostB = {0, 0, 2, 0, 0, 0, 2, 0, 0, 0, 0, 0, 0, 0, 0};
        for (int kind = 0; kind < 15; kind++) {
            int k = kind;
            boolean attribute = kind == 1 || kind == 2 || kind == 7;
            AttribArbor x = readyFor();
            Due.is("step " + kind + ": the least", x.step(kind, 0, 0), left(kind));
            AttribArbor y = readyFor();
            Due.is("step " + kind + ": the most", y.step(kind, mostA[kind], mostB[kind]), left(kind));
            for (int bad : new int[] {LOW, -1, mostA[kind] + 1, HIGH}) {
                String what = "step " + kind + ": a " + bad;
                if (attribute) {
                    Due.noPlace(what, () -> x.step(k, bad, 0));
                    Due.noPlace(what + " ahead of b", () -> x.step(k, bad, 3));
                } else {
                    Due.badArgument(what, () -> x.step(k, bad, 0));
                }
            }
            for (int bad : new int[] {LOW, -1, mostB[kind] + 1, HIGH}) {
                Due.badArgument("step " + kind + ": b " + bad, () -> x.step(k, 0, bad));
            }
            Due.is("step " + kind + ": the draft has four", x.dropSteps(), 4);
        }
        AttribArbor x = readyFor();
        for (int bad : new int[] {LOW, -2, -1, 15, 16, HIGH}) {
            Due.badArgument("step: kind " + bad, () -> x.step(bad, 0, 0));
            Due.badArgument("step: kind " + bad + ", other numbers", () -> x.step(bad, 9, 9));
        }
        Due.is("step: three are told", x.dropSteps(), 3);
    }

    /** With four attributes, and three expressions on the stack. */
    private static AttribArbor readyFor() {
        AttribArbor x = new AttribArbor();
        for (int i = 0; i < 4; i++) {
            x.attribute(i);
        }
        for (int i = 0; i < 3; i++) {
            x.step(0, 1, 0);
        }
        return x;
    }

    private static int takes(int kind) {
        return kind == 7 ? 1 : kind == 13 ? 3 : kind >= 8 && kind <= 12 ? 2 : 0;
    }

    private static int left(int kind) {
        return 4 - takes(kind);
    }

    // "IllegalStateException if the stack has not so many expressions as the step takes"
    private static void stepTakes() {
        for (int kind = 7; kind < 14; kind++) {
            int k = kind;
            AttribArbor x = new AttribArbor();
            x.attribute(0);
            for (int there = 0; there < takes(kind); there++) {
                Due.notNow("step " + kind + " with " + there, () -> x.step(k, 0, 0));
                Due.badArgument("step " + kind + " with " + there + ", b first", () -> x.step(k, 0, 1));
                Due.is("step " + kind + ": the stack is as it was", x.step(14, 0, 0), there + 1);
            }
            Due.is("step " + kind + " with so many", x.step(kind, 0, 0), 1);
            Due.is("step " + kind + ": all are in the draft", x.dropSteps(), takes(kind) + 1);
        }
    }

    // "or the draft has 8 steps"; the stack is full with 8
    private static void eightSteps() {
        AttribArbor x = new AttribArbor();
        x.production(0, -1, -1, -1);
        x.attribute(Told.UP);
        for (int i = 1; i < 9; i++) {
            Due.is("step number " + i, x.step(0, i, 0), i);
        }
        for (int kind = 0; kind < 15; kind++) {
            int k = kind;
            Due.notNow("the 9th step, " + k, () -> x.step(k, 0, 0));
        }
        Due.noPlace("the 9th step: attribute first", () -> x.step(7, 1, 0));
        Due.badArgument("the 9th step: a next", () -> x.step(8, 1, 0));
        Due.notNow("a full stack is no equation", () -> x.equation(0, 0, -1, 0));
        Due.is("the draft has 8", x.dropSteps(), 8);
        for (int i = 1; i < 5; i++) {
            x.step(0, i, 0);
        }
        x.step(8, 0, 0);
        x.step(8, 0, 0);
        Due.is("the 7th step", x.step(8, 0, 0), 1);
        Due.is("the 8th step", x.step(5, 0, 0), 2);
        Due.notNow("the 9th step would join", () -> x.step(12, 0, 0));
        Due.notNow("two for UP", () -> x.equation(0, 0, -1, 0));
        x.dropSteps();
        x.step(0, 1, 0);
        for (int i = 2; i < 8; i += 2) {
            x.step(0, i, 0);
            Due.is("joined, " + i, x.step(8, 0, 0), 1);
        }
        Due.is("the 8th is an OF", x.step(7, 0, 0), 1);
        Due.is("8 steps are an equation", x.equation(0, 0, -1, 0), 0);
        Due.is("and the draft is empty", x.dropSteps(), 0);
        x.read();
        Due.is("8 steps are looked at", x.value(0, 0), -1);
    }

    // "dropSteps: Empties the draft. Returns how many steps it had."
    private static void dropped() {
        AttribArbor x = new AttribArbor();
        for (int many = 0; many < 9; many++) {
            for (int i = 0; i < many; i++) {
                x.step(5, 0, 0);
            }
            Due.is("dropSteps: " + many, x.dropSteps(), many);
            Due.is("dropSteps: behind " + many, x.dropSteps(), 0);
            Due.notNow("dropSteps: the stack behind " + many, () -> x.step(8, 0, 0));
        }
    }

    // "target: as told above; a child that the production has"; "below -2 (0 and above is a child)"
    private static void targets() {
        for (int many = 0; many < 4; many++) {
            int m = many;
            Told t = new Told();
            int p = t.production(0, new int[][] {{4, 5, 6}, {4, 1, 5}, {1, 1, 4}, {1, 1, 1}}[many]);
            AttribArbor x = t.x;
            for (int kind = 0; kind < 4; kind++) {
                int k = kind;
                x.attribute(kind);
                t.number(1);
                if (kind == Told.GATHERED) {
                    t.number(1);
                }
                for (int target = -4; target < 5; target++) {
                    int at = target;
                    String what = "target " + target + " of kind " + kind + " with " + many + " children";
                    boolean goes = kind == Told.DOWN ? target >= 0 : target == (kind == Told.GATHERED ? -2 : -1);
                    if (target >= m) {
                        Due.noPlace(what, () -> x.equation(p, k, at, 0));
                    } else if (!goes) {
                        Due.badArgument(what, () -> x.equation(p, k, at, 0));
                    }
                }
                Due.noPlace("target, highest, of kind " + kind, () -> x.equation(p, k, HIGH, 0));
                Due.badArgument("target, lowest, of kind " + kind, () -> x.equation(p, k, LOW, 0));
                Due.is("the draft is as it was, kind " + kind, x.dropSteps(), kind == Told.GATHERED ? 2 : 1);
            }
            for (int child = 0; child < many; child++) {
                t.number(1);
                Due.is("child " + child + " of " + many, t.down(p, Told.DOWN, child), child);
            }
        }
    }

    // "the stack has not just one expression, two for GATHERED"
    private static void expressionsOfEquations() {
        for (int kind = 0; kind < 4; kind++) {
            Told t = new Told();
            t.production(0, 0);
            t.x.attribute(kind);
            int target = kind == Told.DOWN ? 0 : kind == Told.GATHERED ? -2 : -1;
            int due = kind == Told.GATHERED ? 2 : 1;
            for (int many = 0; many < 9; many++) {
                if (many > 0) {
                    t.number(many);
                }
                if (many != due) {
                    Due.notNow(many + " expressions, kind " + kind, () -> t.x.equation(0, 0, target, 3));
                }
            }
            Due.badArgument("8 expressions, kind " + kind + ", target first", () -> t.x.equation(0, 0, -3, 0));
            Due.noPlace("8 expressions, kind " + kind + ", aspect first", () -> t.x.equation(0, 0, -3, 4));
            Due.is("8 expressions, kind " + kind, t.x.dropSteps(), 8);
            for (int i = 0; i < due; i++) {
                t.number(i);
            }
            Due.is("just so many, kind " + kind, t.x.equation(0, 0, target, 3), 0);
        }
    }

    // "production, attribute, child or aspect" of an equation that do not exist
    private static void equationPlaces() {
        Told t = withProductions(2, 0, 0, 0);
        t.x.attribute(Told.UP);
        t.x.attribute(Told.DOWN);
        t.number(1);
        for (int bad : new int[] {LOW, -2, -1, 2, 10, HIGH}) {
            Due.noPlace("equation: production " + bad, () -> t.x.equation(bad, 0, -1, 0));
            Due.noPlace("equation: attribute " + bad, () -> t.x.equation(0, bad, -1, 0));
            Due.noPlace("equation: aspect " + bad, () -> t.x.equation(0, 0, -1, bad == 2 ? 4 : bad));
            Due.noPlace("equation: aspect " + bad + " ahead of the target", () -> t.x.equation(0, 0, -3, bad == 2 ? 4 : bad));
            Due.noPlace("equation: attribute " + bad + " ahead of the target", () -> t.x.equation(0, bad, -3, 0));
            Due.noPlace("equation: production " + bad + " ahead of the target", () -> t.x.equation(bad, 0, -3, 0));
        }
        Due.is("equation: the last of all", t.x.equation(1, 1, 2, 3), 0);
    }

    // "Equations are numbered from 0, at most 30"
    private static void thirtyEquations() {
        Told t = withProductions(1);
        AttribArbor x = t.x;
        x.attribute(Told.UP);
        x.attribute(Told.UP);
        for (int i = 0; i < 29; i++) {
            t.number(i);
            Due.is("equation " + i, x.equation(0, 0, -1, i % 4), i);
            Due.is("conflicts behind " + i, x.conflicts(), i == 0 ? 0 : i + 1);
        }
        t.number(500).number(29).add();
        Due.is("equation 29", t.up(0, 1), 29);
        Due.is("the draft behind it", x.dropSteps(), 0);
        Due.notNow("the 31st, without a draft", () -> x.equation(0, 0, -1, 0));
        t.number(1).number(2).add();
        Due.notNow("the 31st", () -> x.equation(0, 1, -1, 0));
        Due.notNow("the 31st, another aspect", () -> x.equation(0, 1, -1, 3));
        Due.badArgument("the 31st: target first", () -> x.equation(0, 0, -2, 0));
        Due.noPlace("the 31st: aspect first", () -> x.equation(0, 0, -2, 4));
        Due.is("the 31st: the draft is as it was", x.dropSteps(), 3);
        Due.is("conflicts of 29", x.conflicts(), 29);
        x.read();
        Due.is("the 30th is found", x.value(0, 1), 529);
        Due.is("29 in conflict", x.value(0, 0), AttribArbor.CONFLICT);
    }

    // "aspect: 0 to 3"; "those of an aspect count only while it is on, as at first"
    private static void aspects() {
        Told t = withProductions(1);
        AttribArbor x = t.x;
        for (int a = 0; a < 4; a++) {
            x.attribute(Told.UP);
            t.number(a + 1);
            x.equation(0, a, -1, a);
        }
        x.read();
        for (int bad : new int[] {LOW, -2, -1, 4, 5, HIGH}) {
            Due.noPlace("toggle " + bad, () -> x.toggle(bad) ? 1 : 0);
        }
        for (int aspect = 0; aspect < 4; aspect++) {
            Due.is("aspect " + aspect + " is on at first", x.value(0, aspect), aspect + 1);
            Due.is("aspect " + aspect + " is off", x.toggle(aspect), false);
            for (int a = 0; a < 4; a++) {
                Due.is("attribute " + a + " while " + aspect + " is off", x.value(0, a), a == aspect ? -1 : a + 1);
            }
            Due.is("aspect " + aspect + " is on", x.toggle(aspect), true);
        }
        for (int i = 0; i < 20; i++) {
            Due.is("off and on, " + i, x.toggle(3), i % 2 == 1);
        }
    }

    // "there is another one that counts for the same production, attribute and target. (Contributions are not.)"
    private static void conflicts() {
        Told t = withProductions(2, 0, 0, 0);
        AttribArbor x = t.x;
        Due.is("conflicts of none", x.conflicts(), 0);
        for (int i = 0; i < 6; i++) {
            x.attribute(i % 4);
        }
        t.number(1).up(0, 0);
        Due.is("conflicts of one", x.conflicts(), 0);
        t.number(1).up(1, 0);
        Due.is("conflicts: another production", x.conflicts(), 0);
        t.number(1).up(0, 4);
        Due.is("conflicts: another attribute", x.conflicts(), 0);
        t.number(1).down(0, 1, 0);
        t.number(1).down(0, 1, 1);
        t.number(1).down(0, 1, 2);
        Due.is("conflicts: another target", x.conflicts(), 0);
        x.forward(0, 1, 0, 0, 0);
        Due.is("conflicts: behind a forward", x.conflicts(), 0);
        t.number(1).number(1).gift(0, 2);
        t.number(1).number(1).gift(0, 2);
        Due.is("conflicts: contributions", x.conflicts(), 0);
        t.number(1).down(0, 1, 2);
        Due.is("conflicts: the child 2", x.conflicts(), 2);
        t.number(1).up(1, 0);
        Due.is("conflicts: two and two", x.conflicts(), 4);
        t.number(1).up(0, 3);
        t.number(1);
        x.equation(0, 3, -1, 3);
        Due.is("conflicts: another aspect", x.conflicts(), 6);
        x.toggle(3);
        Due.is("conflicts: that is off", x.conflicts(), 4);
        x.toggle(0);
        Due.is("conflicts: all are off", x.conflicts(), 0);
    }

    // "Returns the lowest production in whose graph something hangs on itself, -1 if there is none."
    private static void ringAtTheEnds() {
        for (int at = 0; at < 10; at++) {
            Told t = withProductions(10, 4);
            Due.is("ringIn: no attribute", t.x.ringIn(), -1);
            for (int i = 0; i < 5; i++) {
                t.x.attribute(i % 2);
            }
            int last = t.x.attribute(Told.UP);
            Due.is("ringIn: no equation", t.x.ringIn(), -1);
            t.own(last).up(9, last);
            t.own(last).up(at, last);
            Due.is("ringIn: the lowest of two", t.x.ringIn(), at);
        }
    }

    // "An UP attribute of a child hangs on a DOWN attribute of it, if in the graph of some production of its
    // nonterminal the one of the node hangs on the other, directly or by others"
    private static void ringOverManyLevels() {
        Told t = new Told();
        t.production(0, 1);
        t.production(1, 2);
        t.production(2, 3);
        t.production(3, 4);
        t.production(3, 3, 3, 3);
        int[] up = new int[3];
        int[] down = new int[3];
        for (int i = 0; i < 3; i++) {
            up[i] = t.x.attribute(Told.UP);
            down[i] = t.x.attribute(Told.DOWN);
        }
        // At the end up 0 hangs on down 0; each level takes the next ones, over two attributes of its own.
        t.own(down[0]).up(3, up[0]);
        t.child(up[0], 0).up(2, up[1]);
        t.own(down[1]).down(2, down[0], 0);
        t.child(up[1], 0).up(1, up[2]);
        t.own(down[2]).down(1, down[1], 0);
        Due.is("ringIn: three levels, none closes", t.x.ringIn(), -1);
        t.child(up[2], 0);
        t.x.equation(0, down[2], 0, 1);
        Due.is("ringIn: closed at the root", t.x.ringIn(), 0);
        t.x.toggle(1);
        Due.is("ringIn: open again", t.x.ringIn(), -1);
        t.child(up[0], 2).down(4, down[0], 2);
        Due.is("ringIn: closed at the last child of three", t.x.ringIn(), 4);
    }

    // "For each equation of it ... hangs on those that its expressions tell by OWN and CHILD"
    private static void ringTellsWhatIsThere() {
        Told t = withProductions(1, 0, 4);
        int up = t.x.attribute(Told.UP);
        int down = t.x.attribute(Told.DOWN);
        t.child(up, 1).up(0, up);
        t.child(up, 2).child(down, 1).add().down(0, down, 0);
        Due.is("ringIn: children that are not there", t.x.ringIn(), -1);
        t.number(1).at(0).of(up).child(up, 0).number(3).add().choose();
        Due.is("ringIn: with a draft that is none yet", t.x.ringIn(), -1);
        t.x.dropSteps();
        t.number(3).child(down, 0).add();
        t.x.equation(0, down, 0, 2);
        Due.is("ringIn: a child's DOWN on itself, one of two", t.x.ringIn(), 0);
        t.x.toggle(2);
        t.own(down);
        t.x.equation(0, down, 0, 3);
        Due.is("ringIn: a child's DOWN on the node's", t.x.ringIn(), -1);
    }

    // "directly or by others": also over the first of all attributes, and by the first of all productions
    private static void ringOverTheFirst() {
        for (int first = 0; first < 3; first++) {
            Told t = new Told();
            int leaf = t.production(1, 4);
            int root = t.production(0, 1);
            // Which of the three is the attribute 0: the DOWN one, the UP one between, or the UP one that is read.
            int[] kinds = {first == 0 ? Told.DOWN : Told.UP, first == 1 ? Told.DOWN : Told.UP, first == 2 ? Told.DOWN : Told.UP};
            for (int kind : kinds) {
                t.x.attribute(kind);
            }
            int down = first;
            int between = first == 1 ? 0 : 1;
            int read = 3 - down - between;
            t.own(between).up(leaf, read);
            t.own(down).up(leaf, between);
            Due.is("ringIn: over the first, open, " + first, t.x.ringIn(), -1);
            t.child(read, 0).down(root, down, 0);
            Due.is("ringIn: over the first, closed, " + first, t.x.ringIn(), root);
            t.number(1);
            t.x.equation(leaf, between, -1, 1);
            t.x.toggle(0);
            Due.is("ringIn: over the first, open again, " + first, t.x.ringIn(), -1);
        }
    }

    public static void main(String[] args) {
        aNewOne();
        nonterminals();
        symbols();
        noMoreSymbols();
        children();
        tenProductions();
        sixAttributes();
        ruleShapes();
        forwardNumbers();
        forwardFits();
        stepArguments();
        stepTakes();
        eightSteps();
        dropped();
        targets();
        expressionsOfEquations();
        equationPlaces();
        thirtyEquations();
        aspects();
        conflicts();
        ringAtTheEnds();
        ringOverManyLevels();
        ringTellsWhatIsThere();
        ringOverTheFirst();
        Due.end("EdgeGrammarTest");
    }
}
