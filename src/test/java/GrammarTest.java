/** Promises 1 to 9: what is told of the grammar, its numbers, and what is refused. */
public final class GrammarTest {
    private static final int LOW = Integer.MIN_VALUE;
    private static final int HIGH = Integer.MAX_VALUE;

    // ---- promise 1
    private static void newObject() {
        AttribArbor x = new AttribArbor();
        Due.is("new: cost", x.cost(), -1);
        Due.is("new: found", x.found(), 0);
        Due.is("new: conflicts", x.conflicts(), 0);
        Due.is("new: ringIn", x.ringIn(), -1);
        Due.is("new: dropSteps", x.dropSteps(), 0);
        Due.notNow("new: read", x::read);
        Due.notNow("new: insert", () -> x.insert(0, 'a'));
        Due.noPlace("new: the text is empty", () -> x.insert(1, 'a'));
        Due.noPlace("new: delete", () -> x.delete(0));
        Due.noPlace("new: node", () -> x.node(0));
        Due.noPlace("new: rewrite", () -> x.rewrite(0));
        Due.noPlace("new: equation", () -> x.equation(0, 0, -1, 0));
        Due.is("new: first production", x.production(0, -1, -1, -1), 0);
        Due.is("new: first attribute", x.attribute(0), 0);
        Due.noPlace("new: no tree until a text is read", () -> x.value(0, 0));
        Due.is("new: no tree until a text is read, cost", x.cost(), -1);
        for (int aspect = 0; aspect < 4; aspect++) {
            Due.is("new: aspect " + aspect + " is on", x.toggle(aspect), false);
        }
    }

    // ---- promise 2
    private static void production() {
        AttribArbor x = new AttribArbor();
        Due.noPlace("production: nonterminal -1", () -> x.production(-1, -1, -1, -1));
        Due.noPlace("production: nonterminal 4", () -> x.production(4, -1, -1, -1));
        Due.noPlace("production: IOOBE first", () -> x.production(HIGH, 11, -1, 0));
        for (int bad : new int[] {-2, 10, LOW, HIGH}) {
            Due.badArgument("production: first " + bad, () -> x.production(0, bad, -1, -1));
            Due.badArgument("production: second " + bad, () -> x.production(0, 1, bad, -1));
            Due.badArgument("production: third " + bad, () -> x.production(0, 1, 1, bad));
        }
        Due.badArgument("production: second behind none", () -> x.production(0, -1, 0, -1));
        Due.badArgument("production: third behind none", () -> x.production(0, 1, -1, 1));
        Due.badArgument("production: third alone", () -> x.production(0, -1, -1, 9));
        Due.is("production: 0", x.production(0, 0, 9, 3), 0);
        Due.is("production: 1", x.production(3, 9, -1, -1), 1);
        Due.is("production: 2", x.production(1, 4, 0, -1), 2);
        Due.is("production: 3", x.production(0, 0, 0, 0), 3);
        for (int i = 4; i < 10; i++) {
            Due.is("production: " + i, x.production(0, -1, -1, -1), i);
        }
        Due.notNow("production: 10 are there", () -> x.production(0, -1, -1, -1));
        Due.badArgument("production: IAE ahead of ISE", () -> x.production(0, 10, -1, -1));
        Due.noPlace("production: IOOBE ahead of ISE", () -> x.production(-1, -1, -1, -1));
    }

    private static Told fourProductions() {
        Told t = new Told();
        t.production(0, 1, 4, 2);
        t.production(0, 2, 1);
        t.production(0, 5);
        t.production(1, 1, 1, 1);
        t.production(0, 1, 5, 2);
        return t;
    }

    // ---- promise 3
    private static void forward() {
        Told t = fourProductions();
        AttribArbor x = t.x;
        t.production(0, 1);
        t.production(2, 1, 1, 2);
        t.production(2, 1, 1, 2);
        Due.noPlace("forward: production -1", () -> x.forward(-1, 1, 0, 0, 0));
        Due.noPlace("forward: production 8", () -> x.forward(8, 1, 0, 0, 0));
        Due.noPlace("forward: other 8", () -> x.forward(0, 8, 0, 0, 0));
        Due.noPlace("forward: other -2", () -> x.forward(0, -2, 0, 0, 0));
        Due.noPlace("forward: child 2", () -> x.forward(0, 1, 2, 0, 0));
        Due.noPlace("forward: child -1", () -> x.forward(0, 1, 1, -1, 0));
        Due.noPlace("forward: no child at all", () -> x.forward(2, 1, 0, 0, 0));
        Due.noPlace("forward: child 2 for the only one", () -> x.forward(1, 5, 2, 0, 0));
        Due.badArgument("forward: no second one", () -> x.forward(1, 5, 1, 5, 0));
        Due.badArgument("forward: no third one", () -> x.forward(0, 1, 1, 0, 5));
        Due.badArgument("forward: the third of another nonterminal", () -> x.forward(6, 7, 0, 0, 0));
        Due.is("forward: the third", x.forward(6, 7, 0, 1, 2), -1);
        Due.noPlace("forward: child 3 of itself", () -> x.forward(3, 3, 0, 0, 3));
        Due.badArgument("forward: to itself", () -> x.forward(0, 0, 0, 1, 0));
        Due.badArgument("forward: another nonterminal", () -> x.forward(0, 3, 0, 0, 0));
        Due.badArgument("forward: child of another nonterminal", () -> x.forward(0, 1, 0, 0, 0));
        Due.badArgument("forward: second of another nonterminal", () -> x.forward(0, 1, 1, 1, 0));
        Due.badArgument("forward: third not 0", () -> x.forward(0, 1, 1, 0, 1));
        Due.badArgument("forward: first not 0", () -> x.forward(0, 2, 1, 0, 0));
        Due.badArgument("forward: -1 where 0 is due", () -> x.forward(0, 2, 0, -1, 0));
        Due.badArgument("forward: none, but a child", () -> x.forward(0, -1, 0, 1, 0));
        Due.is("forward: to none before", x.forward(0, 1, 1, 0, 0), -1);
        Due.is("forward: to 1 before", x.forward(0, 2, 0, 0, 0), 1);
        Due.is("forward: the same again", x.forward(0, 2, 0, 0, 0), 2);
        Due.badArgument("forward: refused", () -> x.forward(0, -1, 1, 0, 0));
        Due.is("forward: no more", x.forward(0, -1, 0, 0, 0), 2);
        Due.is("forward: none before", x.forward(0, -1, 0, 0, 0), -1);
        Due.is("forward: the other way", x.forward(1, 0, 1, 0, 0), -1);
    }

    // ---- promise 4
    private static void rule() {
        Told t = fourProductions();
        AttribArbor x = t.x;
        Due.noPlace("rule: no attribute", () -> x.rule(0, 0, 4));
        t.x.attribute(0);
        int twoLetters = t.production(0, 5, 5);
        int otherHead = t.production(2, 5);
        Due.noPlace("rule: production -1", () -> x.rule(-1, 0, 4));
        Due.noPlace("rule: production 7", () -> x.rule(7, 0, 4));
        Due.noPlace("rule: other -1", () -> x.rule(0, 0, -1));
        Due.noPlace("rule: other 7", () -> x.rule(0, 0, 7));
        Due.noPlace("rule: attribute 1", () -> x.rule(0, 1, 4));
        Due.noPlace("rule: attribute -1, IOOBE first", () -> x.rule(0, -1, 0));
        Due.badArgument("rule: the same", () -> x.rule(0, 0, 0));
        Due.badArgument("rule: children and letters", () -> x.rule(0, 0, 1));
        Due.badArgument("rule: letters", () -> x.rule(2, 0, twoLetters));
        Due.badArgument("rule: nonterminal", () -> x.rule(2, 0, otherHead));
        int turned = t.production(0, 2, 6, 1);
        Due.badArgument("rule: order of the children", () -> x.rule(0, 0, turned));
        Due.is("rule: none before", x.rule(0, 0, 4), -1);
        Due.is("rule: 4 before", x.rule(0, 0, 4), 4);
        int letterFirst = t.production(0, 6, 1, 2);
        Due.is("rule: the letter may stand elsewhere", x.rule(0, 0, letterFirst), 4);
        Due.is("rule: it stood elsewhere", x.rule(0, 0, 4), letterFirst);
        Due.is("rule: the other one has none", x.rule(4, 0, 0), -1);
        Told one = new Told();
        one.x.attribute(Told.UP);
        one.production(3, 1);
        one.production(3, 2);
        one.production(3, 1);
        Due.badArgument("rule: the only child", () -> one.x.rule(0, 0, 1));
        Due.is("rule: a child alike", one.x.rule(0, 0, 2), -1);
    }

    // ---- promise 5
    private static void attribute() {
        AttribArbor x = new AttribArbor();
        Due.badArgument("attribute: -1", () -> x.attribute(-1));
        Due.badArgument("attribute: 4", () -> x.attribute(4));
        for (int i = 0; i < 6; i++) {
            Due.is("attribute: " + i, x.attribute(i % 4), i);
        }
        Due.notNow("attribute: 6 are there", () -> x.attribute(0));
        Due.badArgument("attribute: IAE ahead of ISE", () -> x.attribute(HIGH));
    }

    // ---- promise 6
    private static void step() {
        AttribArbor x = new AttribArbor();
        for (int kind : new int[] {1, 2, 7}) {
            Due.noPlace("step: no attribute yet, " + kind, () -> x.step(kind, 0, 0));
        }
        x.attribute(0);
        x.attribute(1);
        for (int kind : new int[] {1, 2, 7}) {
            Due.noPlace("step: attribute 2, " + kind, () -> x.step(kind, 2, 0));
            Due.noPlace("step: attribute -1 goes first, " + kind, () -> x.step(kind, -1, -1));
        }
        Due.badArgument("step: kind -1", () -> x.step(-1, 0, 0));
        Due.badArgument("step: kind 15", () -> x.step(15, 0, 0));
        Due.badArgument("step: kind 15, attribute 99", () -> x.step(15, 99, 99));
        Due.badArgument("step: number -1", () -> x.step(0, -1, 0));
        Due.badArgument("step: number 1000", () -> x.step(0, 1000, 0));
        Due.badArgument("step: letter 3", () -> x.step(3, 3, 0));
        Due.badArgument("step: letter -1", () -> x.step(3, -1, 0));
        Due.badArgument("step: put 3", () -> x.step(4, 3, 0));
        Due.badArgument("step: put -1", () -> x.step(4, -1, 0));
        Due.badArgument("step: child 3", () -> x.step(2, 0, 3));
        Due.badArgument("step: child -1", () -> x.step(2, 0, -1));
        Due.badArgument("step: at 3", () -> x.step(6, 0, 3));
        Due.badArgument("step: at -1", () -> x.step(6, 0, -1));
        for (int kind : new int[] {5, 6, 8, 9, 10, 11, 12, 13, 14}) {
            Due.badArgument("step: a is 1 for " + kind, () -> x.step(kind, 1, 0));
            Due.badArgument("step: a is -1 for " + kind, () -> x.step(kind, -1, 0));
        }
        for (int kind : new int[] {0, 1, 3, 4, 5, 7, 8, 9, 10, 11, 12, 13, 14}) {
            Due.badArgument("step: b is 1 for " + kind, () -> x.step(kind, 0, 1));
            Due.badArgument("step: b is -1 for " + kind, () -> x.step(kind, 0, -1));
        }
        for (int kind = 7; kind < 14; kind++) {
            int k = kind;
            Due.notNow("step: nothing to take for " + kind, () -> x.step(k, 0, 0));
        }
        Due.is("step: number", x.step(0, 999, 0), 1);
        for (int kind = 8; kind < 14; kind++) {
            int k = kind;
            Due.notNow("step: one to take for " + kind, () -> x.step(k, 0, 0));
        }
        Due.is("step: of", x.step(7, 1, 0), 1);
        Due.is("step: letter", x.step(3, 2, 0), 2);
        Due.notNow("step: two to take for CHOOSE", () -> x.step(13, 0, 0));
        Due.is("step: add", x.step(8, 0, 0), 1);
        Due.is("step: at", x.step(6, 0, 2), 2);
        Due.is("step: child", x.step(2, 1, 2), 3);
        Due.is("step: choose", x.step(13, 0, 0), 1);
        Due.is("step: kind", x.step(14, 0, 0), 2);
        Due.notNow("step: 8 are there", () -> x.step(0, 0, 0));
        Due.notNow("step: 8 are there, one that takes", () -> x.step(12, 0, 0));
        Due.badArgument("step: IAE ahead of ISE", () -> x.step(0, 1000, 0));
        Due.noPlace("step: IOOBE ahead of ISE", () -> x.step(1, 2, 0));
        Due.is("step: no more were told", x.dropSteps(), 8);
        Due.is("step: own", x.step(1, 1, 0), 1);
        Due.is("step: put", x.step(4, 0, 0), 2);
        Due.is("step: self", x.step(5, 0, 0), 3);
        for (int kind = 9; kind < 13; kind++) {
            x.dropSteps();
            x.step(0, 1, 0);
            x.step(0, 2, 0);
            x.step(0, 2, 0);
            Due.is("step: takes two, " + kind, x.step(kind, 0, 0), 2);
        }
    }

    // ---- promise 7
    private static void dropSteps() {
        AttribArbor x = new AttribArbor();
        x.step(0, 1, 0);
        x.step(0, 1, 0);
        x.step(8, 0, 0);
        Due.is("dropSteps: three", x.dropSteps(), 3);
        Due.is("dropSteps: none", x.dropSteps(), 0);
        Due.notNow("dropSteps: the stack is empty", () -> x.step(8, 0, 0));
        Due.is("dropSteps: anew", x.step(0, 1, 0), 1);
    }

    // ---- promise 8
    private static void equation() {
        Told t = fourProductions();
        AttribArbor x = t.x;
        int up = x.attribute(Told.UP);
        int down = x.attribute(Told.DOWN);
        int gathered = x.attribute(Told.GATHERED);
        int ring = x.attribute(Told.RING);
        t.number(1);
        Due.noPlace("equation: production 5", () -> x.equation(5, up, -1, 0));
        Due.noPlace("equation: production -1", () -> x.equation(-1, up, -1, 0));
        Due.noPlace("equation: attribute 4", () -> x.equation(0, 4, -1, 0));
        Due.noPlace("equation: attribute -1", () -> x.equation(0, -1, -1, 0));
        Due.noPlace("equation: aspect 4", () -> x.equation(0, up, -1, 4));
        Due.noPlace("equation: aspect -1", () -> x.equation(0, up, -1, -1));
        Due.noPlace("equation: child 2", () -> x.equation(0, down, 2, 0));
        Due.noPlace("equation: child 0 of none", () -> x.equation(2, down, 0, 0));
        Due.noPlace("equation: child 2 for UP", () -> x.equation(0, up, 2, 0));
        Due.noPlace("equation: aspect ahead of target", () -> x.equation(0, up, -2, 4));
        Due.badArgument("equation: UP at a child", () -> x.equation(0, up, 0, 0));
        Due.badArgument("equation: UP as contribution", () -> x.equation(0, up, -2, 0));
        Due.badArgument("equation: RING at a child", () -> x.equation(0, ring, 1, 0));
        Due.badArgument("equation: RING as contribution", () -> x.equation(0, ring, -2, 0));
        Due.badArgument("equation: DOWN at itself", () -> x.equation(0, down, -1, 0));
        Due.badArgument("equation: DOWN as contribution", () -> x.equation(0, down, -2, 0));
        Due.badArgument("equation: GATHERED at itself", () -> x.equation(0, gathered, -1, 0));
        Due.badArgument("equation: GATHERED at a child", () -> x.equation(0, gathered, 0, 0));
        for (int a = 0; a < 4; a++) {
            int attribute = a;
            Due.badArgument("equation: target -3, " + a, () -> x.equation(0, attribute, -3, 0));
            Due.badArgument("equation: lowest target, " + a, () -> x.equation(0, attribute, LOW, 0));
            Due.noPlace("equation: highest target, " + a, () -> x.equation(0, attribute, HIGH, 0));
        }
        Due.notNow("equation: one for GATHERED", () -> x.equation(0, gathered, -2, 0));
        Due.is("equation: the draft is as it was", x.step(0, 2, 0), 2);
        Due.notNow("equation: two for UP", () -> x.equation(0, up, -1, 0));
        Due.notNow("equation: two for DOWN", () -> x.equation(0, down, 0, 0));
        Due.notNow("equation: two for RING", () -> x.equation(0, ring, -1, 0));
        Due.is("equation: 0", x.equation(0, gathered, -2, 3), 0);
        Due.is("equation: the draft is empty", x.dropSteps(), 0);
        Due.notNow("equation: no draft", () -> x.equation(0, up, -1, 0));
        Due.notNow("equation: no draft, GATHERED", () -> x.equation(0, gathered, -2, 0));
        t.number(1);
        Due.is("equation: 1", x.equation(0, down, 1, 0), 1);
        t.number(1);
        Due.is("equation: 2", x.equation(3, down, 2, 0), 2);
        t.number(1).number(2).number(3);
        Due.notNow("equation: three for GATHERED", () -> x.equation(0, gathered, -2, 0));
        t.add();
        Due.is("equation: two expressions behind ADD", x.equation(1, gathered, -2, 0), 3);
        for (int i = 4; i < 30; i++) {
            t.number(1);
            Due.is("equation: " + i, x.equation(0, ring, -1, i % 4), i);
        }
        t.number(1);
        Due.notNow("equation: 30 are there", () -> x.equation(0, ring, -1, 0));
        Due.badArgument("equation: IAE ahead of ISE", () -> x.equation(0, ring, -2, 0));
        Due.noPlace("equation: IOOBE ahead of ISE", () -> x.equation(0, ring, -2, 4));
    }

    // ---- promise 9
    private static void toggle() {
        Told t = new Told();
        AttribArbor x = t.x;
        t.production(0);
        x.attribute(Told.UP);
        Due.noPlace("toggle: -1", () -> x.toggle(-1) ? 1 : 0);
        Due.noPlace("toggle: 4", () -> x.toggle(4) ? 1 : 0);
        for (int aspect = 0; aspect < 4; aspect++) {
            t.number(10 + aspect);
            x.equation(0, 0, -1, aspect);
            Due.is("toggle: off " + aspect, x.toggle(aspect), false);
        }
        x.read();
        Due.is("toggle: none counts", x.value(0, 0), AttribArbor.NONE);
        for (int aspect = 0; aspect < 4; aspect++) {
            Due.is("toggle: on " + aspect, x.toggle(aspect), true);
            Due.is("toggle: one counts " + aspect, x.value(0, 0), 10 + aspect);
            x.toggle(aspect);
        }
        x.toggle(1);
        x.toggle(2);
        Due.is("toggle: two count", x.value(0, 0), AttribArbor.CONFLICT);
        t.number(77);
        x.equation(0, 0, -1, 3);
        Due.is("toggle: told while off", x.conflicts(), 2);
    }

    public static void main(String[] args) {
        newObject();
        production();
        forward();
        rule();
        attribute();
        step();
        dropSteps();
        equation();
        toggle();
        Due.end("GrammarTest");
    }
}
