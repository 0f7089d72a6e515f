/**
 * The document from 'Attributes and equations' to 'What is kept': each sentence quoted, and tried. What
 * stands there and is not quoted here fails the test.
 */
public final class DocAttributesTest {
    private static final int NONE = AttribArbor.NONE;
    private static final int CYCLE = AttribArbor.CYCLE;
    private static final int CONFLICT = AttribArbor.CONFLICT;
    private static final int REFERENCE = AttribArbor.REFERENCE;
    private static final int UP = Told.UP, DOWN = Told.DOWN, GATHERED = Told.GATHERED, RING = Told.RING;
    private static final int A = 4, B = 5, C = 6, D = 7;

    private static final Document DOC = new Document();

    private static int[] p(int... row) {
        return Told.p(row);
    }

    // Attributes of the root of "ab": the one that is tried, a conflict, a cycle, nothing, a reference.
    private static final int TRIED = 0, ODD = 1, ROUND = 2, EMPTY = 3, CHILD = 4;

    /** 0 -> "a" 1, 1 -> "b". */
    private static Told twoNodes() {
        Told t = Told.grammar(p(0, A, 1), p(1, B)).attributes(UP, UP, UP, UP, UP);
        t.number(1).up(0, ODD);
        t.number(2).up(0, ODD);
        t.own(ROUND).up(0, ROUND);
        t.at(0).up(0, CHILD);
        t.text("ab");
        return t;
    }

    /** What an expression is, and at which attributes it looks, in this order and no others. */
    private static void is(String what, int due, Told told, int... looks) {
        told.up(0, TRIED);
        for (int i = 0; i < looks.length; i++) {
            Due.is(what + ", look " + i, told.x.why(0, TRIED, i), looks[i]);
        }
        Due.noPlace(what + ", no more looks", () -> told.x.why(0, TRIED, looks.length));
        Due.is(what, told.ask(0, TRIED), due);
    }

    private static void attributes() {
        DOC.section("Attributes and equations");
        DOC.says("Attributes are numbered from 0, at most 6.");
        AttribArbor x = new AttribArbor();
        for (int i = 0; i < 6; i++) {
            Due.is("attribute " + i, x.attribute(UP), i);
        }
        Due.notNow("attribute 6", () -> x.attribute(UP));

        DOC.says("An attribute is of a kind: 0 UP, 1 DOWN, 2 GATHERED, 3 RING (it goes up, and may hang on itself).");
        Told t = Told.grammar(p(0, A, 1), p(1)).attributes(0, 1, 2, 3);
        t.child(0, 0).number(1).add().up(0, 0);
        t.number(1).up(1, 0);
        t.number(7).down(0, 1, 0);
        t.at(0).number(5).gift(0, 2);
        t.own(3).number(1).or().up(0, 3);
        t.text("a");
        Due.is("0 goes up", t.ask(0, 0), 2);
        Due.is("1 goes down", t.ask(1, 1), 7);
        Due.is("2 is gathered", t.ask(1, 2), 5);
        Due.is("3 may hang on itself", t.ask(0, 3), 1);
        Due.badArgument("kind 4", () -> t.x.attribute(4));

        DOC.says("What an attribute of a node is, is a number, 0 to 999, a reference to a node, or one of three things "
                + "in place of a value: NONE, CYCLE, CONFLICT.");
        is("the least number", 0, twoNodes().number(0));
        is("the greatest number", 999, twoNodes().number(999));
        is("a reference", REFERENCE, twoNodes().self());
        is("NONE", NONE, twoNodes().own(EMPTY), EMPTY);
        is("CYCLE", CYCLE, twoNodes().own(ROUND), ROUND);
        is("CONFLICT", CONFLICT, twoNodes().own(ODD), ODD);
    }

    private static void equations() {
        DOC.says("An equation is of a production, an attribute and a target, in an aspect, 0 to 3, with an expression.");
        Told t = Told.grammar(p(0, A), p(0, B)).attributes(UP, UP);
        for (int aspect = 0; aspect < 4; aspect++) {
            t.number(aspect);
            Due.is("in aspect " + aspect, t.x.equation(aspect % 2, aspect / 2, -1, aspect), aspect);
        }
        t.number(1);
        Due.noPlace("in aspect 4", () -> t.x.equation(0, 0, -1, 4));
        Due.is("without an expression", t.x.dropSteps(), 1);
        Due.notNow("without an expression", () -> t.x.equation(0, 0, -1, 0));
        t.text("b");
        Due.is("of this production and attribute 0", t.ask(0, 0), 1);
        Due.is("of this production and attribute 1", t.ask(0, 1), 3);

        DOC.says("Its target is -1 for the node itself (UP, RING), the number of a child (DOWN), or -2 (GATHERED: a "
                + "contribution, which has two expressions).");
        for (int kind = 0; kind < 4; kind++) {
            for (int target = -2; target < 1; target++) {
                AttribArbor x = Told.grammar(p(0, 0)).attributes(kind).x;
                boolean goes = target == (kind == GATHERED ? -2 : kind == DOWN ? 0 : -1);
                x.step(0, 1, 0);
                if (kind == GATHERED) {
                    Due.is("a second expression", x.step(0, 1, 0), 2);
                }
                int at = target;
                if (goes) {
                    Due.is("target " + target + " of kind " + kind, x.equation(0, 0, target, 0), 0);
                } else {
                    Due.badArgument("target " + target + " of kind " + kind, () -> x.equation(0, 0, at, 0));
                }
            }
        }

        DOC.says("Equations are numbered from 0, at most 30; those of an aspect count only while it is on, as at first.");
        Told u = Told.grammar(p(0)).attributes(UP);
        u.number(8);
        u.x.equation(0, 0, -1, 2);
        for (int i = 1; i < 30; i++) {
            u.number(i);
            Due.is("equation " + i, u.x.equation(0, 0, -1, 1), i);
        }
        u.number(1);
        Due.notNow("equation 30", () -> u.x.equation(0, 0, -1, 1));
        u.x.read();
        Due.is("both aspects are on at first", u.ask(0, 0), CONFLICT);
        u.x.toggle(1);
        Due.is("one is off", u.ask(0, 0), 8);
        u.x.toggle(2);
        Due.is("both are off", u.ask(0, 0), NONE);
        u.x.toggle(2);
        Due.is("one is on again", u.ask(0, 0), 8);
    }

    private static void steps() {
        DOC.says("An expression is told in steps; each takes expressions from a stack, the one that was put last being "
                + "the last one of these, and puts one there.");
        is("5, 0, then 7 by CHOOSE: the last one is 7", 7, twoNodes().number(0).number(5).number(7).choose());
        is("the last two alone are taken", 205, twoNodes().number(5).number(4).number(50).mul().add());

        DOC.says("0 NUMBER a: the number a, 0 to 999.");
        is("NUMBER", 321, twoNodes().number(321));
        Due.badArgument("NUMBER 1000", () -> new AttribArbor().step(0, 1000, 0));

        DOC.says("1 OWN a: the attribute a of the node itself.");
        is("OWN", REFERENCE + 1, twoNodes().own(CHILD), CHILD);

        DOC.says("2 CHILD a b: the attribute a of its child b.");
        Told t = twoNodes();
        t.number(64).up(1, EMPTY);
        is("CHILD", 64, t.child(EMPTY, 0), 10 + EMPTY);

        DOC.says("3 LETTER a: 1 to 6 for its letter a, \"a\" to \"f\".");
        for (int letter = 0; letter < 6; letter++) {
            Told u = Told.grammar(p(0, A + letter, B, A + 5 - letter)).attributes(UP, UP, UP);
            for (int i = 0; i < 3; i++) {
                u.letter(i).up(0, i);
            }
            u.x.read();
            Due.is("LETTER 0", u.ask(0, 0), letter + 1);
            Due.is("LETTER 1", u.ask(0, 1), 2);
            Due.is("LETTER 2", u.ask(0, 2), 6 - letter);
        }

        DOC.says("4 PUT a: 1 if that letter was put in, otherwise 0.");
        Told u = Told.grammar(p(0, A, B, C)).attributes(UP, UP, UP);
        for (int i = 0; i < 3; i++) {
            u.put(i).up(0, i);
        }
        u.text("ac");
        Due.is("PUT of \"a\"", u.ask(0, 0), 0);
        Due.is("PUT of \"b\"", u.ask(0, 1), 1);
        Due.is("PUT of \"c\"", u.ask(0, 2), 0);

        DOC.says("5 SELF: a reference to it.");
        is("SELF", REFERENCE, twoNodes().self());

        DOC.says("6 AT b: a reference to its child b.");
        is("AT", REFERENCE + 1, twoNodes().at(0));

        DOC.says("7 OF a: takes one: the attribute a of the node to which that refers.");
        t = twoNodes();
        t.number(65).up(1, EMPTY);
        is("OF", 65, t.own(CHILD).of(EMPTY), CHILD, 10 + EMPTY);

        DOC.says("8 ADD, 9 MUL, 10 MAX, 11 OR (bit by bit): take two; by 1000.");
        is("ADD", 998, twoNodes().number(999).number(999).add());
        is("MUL", 1, twoNodes().number(999).number(999).mul());
        is("MAX", 612, twoNodes().number(96).number(612).max());
        is("OR", 511 + 512 - 1000, twoNodes().number(511).number(512).or());
        is("OR, bit by bit", 7, twoNodes().number(6).number(3).or());

        DOC.says("12 SAME: takes two: 1 if both are alike, otherwise 0.");
        is("SAME, alike", 1, twoNodes().number(6).number(6).same());
        is("SAME, not alike", 0, twoNodes().number(6).number(7).same());

        DOC.says("13 CHOOSE: takes three: what the second one is, if the first one is not 0, otherwise what the third "
                + "one is.");
        is("CHOOSE by 2", 11, twoNodes().number(2).number(11).number(22).choose());
        is("CHOOSE by 0", 22, twoNodes().number(0).number(11).number(22).choose());

        DOC.says("14 KIND: the production of the node, as it is now.");
        t = Told.grammar(p(1), p(0, A), p(0, B)).attributes(UP);
        t.kind().up(1, 0);
        t.kind().up(2, 0);
        t.x.rule(1, 0, 2);
        t.text("a");
        Due.is("KIND", t.ask(0, 0), 1);
        t.x.rewrite(0);
        Due.is("KIND behind a rewriting", t.ask(0, 0), 2);
    }

    private static void lookedAt() {
        DOC.says("A child or a letter that the node does not have is NONE.");
        is("no letter 1", NONE, twoNodes().letter(1));
        is("no letter 1 to be put in", NONE, twoNodes().put(1));
        is("no child 1", NONE, twoNodes().child(EMPTY, 1));
        is("no child 1 to refer to", NONE, twoNodes().at(1));

        DOC.says("Expressions are looked at from left to right, and only as far as need be: where the first one of two "
                + "is something in place of a value, the whole is just that, and the second one is not looked at; "
                + "likewise the second one then;");
        for (int kind = 8; kind < 13; kind++) {
            int[] odds = {EMPTY, ROUND, ODD};
            int[] due = {NONE, CYCLE, CONFLICT};
            for (int i = 0; i < 3; i++) {
                Told t = twoNodes().own(odds[i]).own(CHILD);
                t.x.step(kind, 0, 0);
                is(kind + " with " + due[i] + " first", due[i], t, odds[i]);
                t = twoNodes().own(CHILD).own(odds[i]);
                t.x.step(kind, 0, 0);
                is(kind + " with " + due[i] + " second", due[i], t, CHILD, odds[i]);
            }
        }

        DOC.says("CHOOSE looks at what it chooses alone, and if the first one is in place of a value, at none.");
        is("CHOOSE the second", REFERENCE + 1, twoNodes().number(1).own(CHILD).own(ODD).choose(), CHILD);
        is("CHOOSE the third", CONFLICT, twoNodes().number(0).own(CHILD).own(ODD).choose(), ODD);
        is("CHOOSE none", NONE, twoNodes().own(EMPTY).own(CHILD).own(ODD).choose(), EMPTY);
        is("CHOOSE none by a cycle", CYCLE, twoNodes().own(ROUND).own(CHILD).own(ODD).choose(), ROUND);
        is("CHOOSE none by a conflict", CONFLICT, twoNodes().own(ODD).own(CHILD).own(EMPTY).choose(), ODD);

        DOC.says("OF of a number is NONE; ADD, MUL, MAX and OR with a reference are NONE; references to one node are "
                + "alike, a number and a reference are not; a reference as the first one of CHOOSE is not 0.");
        is("OF a number", NONE, twoNodes().number(1).of(ODD));
        for (int kind = 8; kind < 12; kind++) {
            Told t = twoNodes().number(1).self();
            t.x.step(kind, 0, 0);
            is("a reference second, " + kind, NONE, t);
            t = twoNodes().self().number(1);
            t.x.step(kind, 0, 0);
            is("a reference first, " + kind, NONE, t);
        }
        is("references to one node", 1, twoNodes().at(0).own(CHILD).same(), CHILD);
        is("references to two nodes", 0, twoNodes().self().own(CHILD).same(), CHILD);
        is("a number and a reference", 0, twoNodes().number(0).self().same());
        is("a reference chooses", 4, twoNodes().self().number(4).number(5).choose());
    }

    private static void forwards() {
        DOC.section("What an attribute of a node is");
        DOC.says("The equation of a production for an attribute and a target: that which counts; if there are two, it "
                + "is CONFLICT;");
        Told t = Told.grammar(p(0, A, 1), p(1)).attributes(UP, DOWN);
        t.number(3).up(0, 0);
        t.number(4).down(0, 1, 0);
        t.text("a");
        Due.is("that for the node", t.ask(0, 0), 3);
        Due.is("that for the child", t.ask(1, 1), 4);
        Due.is("none for the child's own", t.ask(1, 0), NONE);
        t.number(3).up(0, 0);
        t.number(5).down(0, 1, 0);
        Due.is("two for the node, though alike", t.ask(0, 0), CONFLICT);
        Due.is("two for the child", t.ask(1, 1), CONFLICT);

        DOC.says("if there is none, and the production forwards to another one, the equation of that for the attribute "
                + "and the same target (for DOWN: the first child there, by rising numbers, for which this child of "
                + "the node stands, over all forwards on the way), looked at at the node, where the children are those "
                + "that stand for them, letters are NONE, and KIND is that of the node still;");
        // The production 0 shows its children turned round, the production 1 turns them once more.
        t = Told.grammar(p(0, 1, A, 1), p(0, 1, 1, B), p(0, 1, 1, 1), p(1, B), p(1, C)).attributes(UP, UP, DOWN);
        int value = 0;
        int tried = 1;
        int down = 2;
        t.letter(0).up(3, value);
        t.letter(0).up(4, value);
        t.x.forward(0, 1, 1, 0, 0);
        t.x.forward(1, 2, 1, 1, 0);
        t.text("bac");
        Due.is("no equation at all", t.ask(0, tried), NONE);
        int e = t.child(value, 0).number(10).mul().child(value, 1).add().up(2, tried);
        Due.is("behind two forwards: 1, 1 of (1, 0) is 0, 0", t.ask(0, tried), 22);
        Due.is("its number", e, 2);
        t.child(value, 0).number(10).mul().child(value, 1).add().up(1, tried);
        Due.is("behind one forward: the children turned round", t.ask(0, tried), 32);
        t.number(6).down(2, down, 2);
        t.number(7).down(2, down, 1);
        Due.is("DOWN: child 1 stands for the child 2 there, by the child 0 of 1", t.ask(2, down), 6);
        Due.is("DOWN: child 0 stands for 0 and 1 there, and the first has none", t.ask(1, down), NONE);
        t.number(8).down(2, down, 0);
        Due.is("DOWN: the first one there", t.ask(1, down), 8);
        t.letter(0).up(1, value);
        Due.is("letters are NONE", t.ask(0, value), NONE);
        t.kind().down(1, down, 0);
        Due.is("KIND is that of the node still", t.ask(2, down), 0);
        t.number(9).up(0, tried);
        Due.is("its own goes first", t.ask(0, tried), 9);

        DOC.says("and so on, behind at most 3 forwards.");
        t = Told.grammar(p(0, A), p(0, B), p(0, C), p(0, D), p(0)).attributes(UP, UP);
        for (int i = 0; i < 4; i++) {
            t.x.forward(i, i + 1, 0, 0, 0);
        }
        t.number(3).up(3, 0);
        t.number(4).up(4, 1);
        t.text("a");
        Due.is("behind three", t.ask(0, 0), 3);
        Due.is("not behind four", t.ask(0, 1), NONE);
        Due.is("from the second one it is three", t.x.insert(0, 'b') + t.x.delete(1) + t.ask(0, 1), 101 + 100 + 4);
    }

    private static void upAndDown() {
        DOC.says("UP and RING: what that equation for the node itself is; NONE without one.");
        Told t = Told.grammar(p(0, A, 1), p(1)).attributes(UP, RING, DOWN, DOWN);
        t.number(3).up(0, 0);
        t.number(4).up(0, 1);
        t.text("a");
        Due.is("UP", t.ask(0, 0), 3);
        Due.is("RING", t.ask(0, 1), 4);
        Due.is("UP without one", t.ask(1, 0), NONE);
        Due.is("RING without one", t.ask(1, 1), NONE);

        DOC.says("DOWN: what that equation of the parent's production for this child is, looked at at the parent; without "
                + "one, what the attribute is of the parent (so it comes over remote places); NONE at the root.");
        t = Told.grammar(p(0, A, 1), p(1, B, 1), p(1)).attributes(DOWN, DOWN);
        t.self().down(0, 0, 0);
        t.letter(0).down(1, 1, 0);
        t.text("abb");
        Due.is("the parent is itself there", t.ask(1, 0), REFERENCE);
        Due.is("over one place", t.ask(2, 0), REFERENCE);
        Due.is("over two places", t.ask(3, 0), REFERENCE);
        Due.is("the parent's letter", t.ask(2, 1), 2);
        Due.is("at the root", t.ask(0, 0), NONE);
        Due.is("from the root", t.ask(1, 1), NONE);
    }

    private static void gathered() {
        DOC.says("GATHERED: all contributions that count, for the attribute, of all nodes of the tree are gone through, "
                + "by rising nodes, of each those of its production by rising numbers (forwards do not matter).");
        Told t = Told.grammar(p(0, A, 1, 1), p(1, B), p(1, C)).attributes(GATHERED, UP, DOWN);
        int sum = 0;
        int up = 1;
        int root = 2;
        t.self().down(0, root, 0);
        t.self().down(0, root, 1);
        t.own(root).child(up, 2).gift(1, sum);
        t.own(root).number(20).gift(2, sum);
        t.self().own(up).gift(0, sum);
        t.own(root).number(300).gift(1, sum);
        t.number(4).up(0, up);
        t.number(500).number(300).gift(0, sum);
        t.x.forward(0, -1, 0, 0, 0);
        t.text("abc");
        Due.is("of all nodes", t.ask(0, sum), 300 + 20 + 4);
        int[] order = {up, 10 + root, 20 + root};
        for (int i = 0; i < order.length; i++) {
            Due.is("by rising nodes, " + i, t.x.why(0, sum, i), order[i]);
        }
        AttribArbor y = t.x;
        Due.noPlace("and no more", () -> y.why(0, sum, order.length));
        t.x.forward(1, 2, 0, 0, 0);
        Due.is("forwards do not matter", t.ask(0, sum), 324);
        t.x.delete(1);
        t.x.insert(1, 'c');
        Due.is("those of its production alone", t.ask(0, sum), 20 + 20 + 4);

        DOC.says("If the first expression is CYCLE or CONFLICT, the attribute is that, and no more is looked at;");
        for (int odd : new int[] {CYCLE, CONFLICT}) {
            t = Told.grammar(p(0, A)).attributes(GATHERED, UP, UP);
            oddAt(t, 1, odd);
            t.self().number(5).gift(0, 0);
            t.own(1).own(2).gift(0, 0);
            t.own(2).number(1).gift(0, 0);
            t.text("a");
            Due.is("the first one is " + odd, t.ask(0, 0), odd);
            Due.is("at that is looked", t.x.why(0, 0, 0), 1);
            AttribArbor x = t.x;
            Due.noPlace("and at no more", () -> x.why(0, 0, 1));
        }

        DOC.says("if it refers to the node that is asked, the second one is added, by 1000 (CYCLE or CONFLICT are the "
                + "attribute then, and no more is looked at; NONE and references add nothing); all others are left out.");
        t = Told.grammar(p(0, A, 1), p(1)).attributes(GATHERED, UP);
        t.self().number(700).gift(0, 0);
        t.self().number(800).gift(0, 0);
        t.self().own(1).gift(0, 0);
        t.self().at(0).gift(0, 0);
        t.at(0).number(9).gift(0, 0);
        t.number(0).number(50).gift(0, 0);
        t.own(1).number(50).gift(0, 0);
        t.text("a");
        Due.is("added by 1000", t.ask(0, 0), 500);
        Due.is("that for the child", t.ask(1, 0), 9);
        for (int odd : new int[] {CYCLE, CONFLICT}) {
            Told u = Told.grammar(p(0, A)).attributes(GATHERED, UP, UP);
            oddAt(u, 1, odd);
            u.self().own(1).gift(0, 0);
            u.self().own(2).gift(0, 0);
            u.text("a");
            Due.is("the second one is " + odd, u.ask(0, 0), odd);
            Due.noPlace("no more is looked at", () -> u.x.why(0, 0, 1));
        }
    }

    private static void oddAt(Told t, int attribute, int odd) {
        if (odd == CYCLE) {
            t.own(attribute).up(0, attribute);
        } else {
            t.number(1).up(0, attribute);
            t.number(1).up(0, attribute);
        }
    }

    private static void rings() {
        DOC.says("An attribute that is not RING, and for which itself has to be looked at, without a RING one on the way, "
                + "is CYCLE, and so is what is found by that.");
        Told t = Told.grammar(p(0)).attributes(UP, UP, UP, RING, UP);
        t.own(1).number(1).add().up(0, 0);
        t.own(0).up(0, 1);
        t.number(1).own(1).own(2).choose().up(0, 2);
        t.own(4).up(0, 3);
        t.own(3).number(2).or().up(0, 4);
        t.x.read();
        Due.is("itself, over another one", t.ask(0, 0), CYCLE);
        Due.is("the other one", t.ask(0, 1), CYCLE);
        Due.is("found by that", t.ask(0, 2), CYCLE);
        Due.is("with a RING one on the way", t.ask(0, 4), 2);
        t = Told.grammar(p(0)).attributes(UP);
        t.number(0).own(0).number(5).choose().up(0, 0);
        t.x.read();
        Due.is("it need not be looked at", t.ask(0, 0), 5);

        DOC.says("RING attributes of all nodes are found together. At first each is 0; then they are found anew by rounds, "
                + "all from what they were behind the round ahead (a reference counts as NONE), until a round changes "
                + "none; that is what they are. If the 30th round changes one, all of them are CYCLE.");
        t = Told.grammar(p(0, A, 1), p(1, B)).attributes(RING, RING, UP, RING);
        t.child(0, 0).up(0, 0);
        t.own(0).number(1).or().up(1, 0);
        t.self().up(0, 1);
        t.own(3).number(28).same().number(28).own(3).number(1).add().choose().up(0, 3);
        t.text("ab");
        Due.is("over nodes", t.ask(0, 0), 1);
        Due.is("a reference is NONE", t.ask(0, 1), NONE);
        Due.is("as far as 28 in 28 rounds, the 29th changes none", t.ask(0, 3), 28);
        for (int last = 29; last < 31; last++) {
            Told u = Told.grammar(p(0, 1), p(1)).attributes(RING, RING);
            u.own(0).number(last).same().number(last).own(0).number(1).add().choose().up(0, 0);
            u.number(7).up(1, 1);
            u.x.read();
            Due.is("as far as " + last, u.ask(0, 0), last == 29 ? 29 : CYCLE);
            Due.is("all of them, as far as " + last, u.ask(1, 1), last == 29 ? 7 : CYCLE);
            Due.is("also where there is no equation, " + last, u.ask(0, 1), last == 29 ? NONE : CYCLE);
        }
        t = Told.grammar(p(0, A, 0), p(0, B, 0), p(0)).attributes(RING, UP);
        t.own(1).child(0, 0).add().up(0, 0);
        t.number(50).up(1, 0);
        t.number(0).up(2, 0);
        t.number(1).up(0, 1);
        t.x.rule(0, 1, 1);
        t.text("aa");
        Due.is("together, by two nodes", t.ask(0, 0), 2);
        Due.is("behind a rewriting", t.x.rewrite(1) + t.ask(0, 0), 1 + 51);
        Due.is("behind a change of the text", t.x.insert(0, 'b') / 100 + t.ask(0, 0), 4 + 50);
        Due.is("and back", t.x.delete(0) / 100 + t.ask(0, 0), 3 + 2);
        // Two that change places are what the other one was behind the round ahead: they never come to rest.
        t = Told.grammar(p(0)).attributes(RING, RING);
        t.own(1).number(0).same().up(0, 0);
        t.own(0).up(0, 1);
        t.x.read();
        Due.is("all from the round ahead", t.ask(0, 1), CYCLE);
    }

    private static void kept() {
        DOC.section("What is kept");
        DOC.says("What was found for an attribute (not RING) of a node, when it was asked, or something that looked at it "
                + "was, is kept, with the nodes on which it hangs:");
        Told t = Told.grammar(p(0, A, 1), p(1)).attributes(UP, UP, RING);
        t.child(1, 0).up(0, 0);
        t.text("a");
        t.ask(0, 0);
        t.ask(0, 2);
        Due.is("it was asked", t.x.isKept(0, 0), true);
        Due.is("what looked at it was asked", t.x.isKept(1, 1), true);
        Due.is("neither", t.x.isKept(0, 1) || t.x.isKept(1, 0), false);
        Due.is("RING", t.x.isKept(0, 2), false);

        DOC.says("for an UP attribute the node; for a DOWN one the node and its parent, if there is one; for a GATHERED "
                + "one, for what looked at a RING one, and for what is CYCLE all nodes; and those on which what it "
                + "looked at hangs.");
        DOC.says("It is dropped when one of these nodes is rewritten, is a node no more, or gets another child; what hangs "
                + "on all nodes, when any node does, or there is a new one; what is kept for a node, when that is none "
                + "any more.");
        keptBehind("nothing", 0, new boolean[] {true, true, true, true, true, true, true, true});
        keptBehind("node 1 rewritten", 1, new boolean[] {true, false, false, false, false, false, true, false});
        keptBehind("node 3 rewritten", 2, new boolean[] {true, true, true, false, false, false, false, true});
        keptBehind("another child of the root", 3, new boolean[] {false, true, true, false, false, false, false, false});
        keptBehind("a new root", 4, new boolean[8]);

        DOC.says("All is dropped when a production, an attribute, an equation, an aspect, a forward or a rule is told, also "
                + "as it was.");
        droppedByTelling();

        DOC.says("What is looked at within rounds is neither kept nor counted, and what is kept is not looked at there.");
        t = Told.grammar(p(0)).attributes(UP, RING);
        t.own(1).number(4).or().up(0, 0);
        t.own(0).up(0, 1);
        t.x.read();
        Due.is("the RING one looks at the UP one", t.ask(0, 1), 4);
        Due.is("it is not kept", t.x.isKept(0, 0), false);
        Due.is("it is not counted", t.x.found(), 0);
        Due.is("it is asked", t.ask(0, 0), 4);
        Due.is("then it is counted", t.x.found(), 1);

        DOC.says("A finding that is kept is counted, each one that is made on the way as well, CYCLE ones too; so is one "
                + "that has to be made again.");
        t = Told.grammar(p(0)).attributes(UP, UP, UP);
        t.own(1).up(0, 0);
        t.own(2).up(0, 1);
        t.own(1).up(0, 2);
        t.x.read();
        Due.is("one that leads to two in a ring", t.ask(0, 0), CYCLE);
        Due.is("three are counted", t.x.found(), 3);
        t.ask(0, 1);
        t.x.valueAnew(0, 2);
        Due.is("they are not made again", t.x.found(), 3);
        t.x.toggle(3);
        t.ask(0, 2);
        Due.is("they are made again, two of them", t.x.found(), 5);
    }

    /**
     * Of "abc", 0 -> "a" 1 3, 1 -> "b" 2, 3 -> "c", what is kept: UP ones of the nodes 0 and 1, a DOWN one of the
     * node 2, and of the node 3 a GATHERED one and one that looked at a RING one; then a CYCLE, an UP one of the
     * node 3, and one of the root that looked at the node 1.
     */
    private static void keptBehind(String what, int change, boolean[] due) {
        Told t = Told.grammar(p(0, A, 1, 3), p(1, B, 2), p(3, C), p(2), p(1, D, 2), p(3, 9), p(0, B, 1, 3))
                .attributes(UP, DOWN, GATHERED, RING, UP, UP);
        int plain = 0;
        int down = 1;
        int gathered = 2;
        int ring = 3;
        int overRing = 4;
        int over = 5;
        t.number(1).up(0, plain);
        t.number(1).up(1, plain);
        t.number(1).up(2, plain);
        t.number(3).down(1, down, 0);
        t.number(3).down(4, down, 0);
        t.own(ring).up(2, overRing);
        t.own(over).up(0, over);
        t.child(plain, 0).up(0, overRing);
        t.x.rule(1, plain, 4);
        t.x.rule(2, plain, 5);
        t.text("abc");
        int[][] slots = {{0, plain}, {1, plain}, {2, down}, {3, gathered}, {3, overRing}, {0, over}, {3, plain}, {0, overRing}};
        for (int[] slot : slots) {
            t.ask(slot[0], slot[1]);
        }
        if (change == 1) {
            Due.is(what, t.x.rewrite(1), 4);
        } else if (change == 2) {
            Due.is(what, t.x.rewrite(3), 5);
        } else if (change == 3) {
            Due.is(what, t.x.delete(2), 403);
        } else if (change == 4) {
            Due.is(what, t.x.insert(0, 'b') + t.x.delete(1), 404 + 400);
        }
        for (int i = 0; i < slots.length; i++) {
            Due.is("kept behind " + what + ", " + i, t.x.isKept(slots[i][0], slots[i][1]), due[i]);
        }
    }

    private static void droppedByTelling() {
        for (int i = 0; i < 6; i++) {
            Told t = Told.grammar(p(0, A), p(0, B)).attributes(UP);
            t.x.forward(0, 1, 0, 0, 0);
            t.x.rule(0, 0, 1);
            t.text("a");
            t.ask(0, 0);
            t.number(1);
            Due.is("a step tells none of these", t.x.isKept(0, 0), true);
            int answer = i == 0 ? t.x.production(0, A, -1, -1) : i == 1 ? t.x.attribute(UP)
                    : i == 2 ? t.x.equation(1, 0, -1, 0) : i == 3 ? (t.x.toggle(3) ? 1 : 0)
                    : i == 4 ? t.x.forward(0, 1, 0, 0, 0) : t.x.rule(0, 0, 1);
            Due.is("telling " + i + " answered", answer, new int[] {2, 1, 0, 0, 1, 1}[i]);
            Due.is("dropped by telling " + i, t.x.isKept(0, 0), false);
        }
    }

    private static void refused() {
        DOC.says("IndexOutOfBoundsException is thrown for a nonterminal, production, attribute, aspect, equation, node, "
                + "child, letter, place or read that does not exist; IllegalArgumentException for another argument out "
                + "of range; and IllegalStateException if a call is not possible now.");
        AttribArbor x = twoNodes().x;
        Due.noPlace("no such nonterminal", () -> x.production(4, -1, -1, -1));
        Due.noPlace("no such production", () -> x.rule(2, 0, 1));
        Due.noPlace("no such attribute", () -> x.value(0, 5));
        Due.noPlace("no such aspect", () -> x.toggle(4) ? 1 : 0);
        Due.noPlace("no such node", () -> x.node(2));
        Due.noPlace("no such child", () -> x.equation(0, 0, 1, 0));
        Due.noPlace("no such letter", () -> x.delete(2));
        Due.noPlace("no such place", () -> x.insert(3, 'a'));
        Due.noPlace("no such read", () -> x.why(0, ROUND, 1));
        Due.badArgument("a symbol out of range", () -> x.production(0, 10, -1, -1));
        Due.badArgument("a letter out of range", () -> x.insert(0, 'g'));
        Due.badArgument("a kind out of range", () -> x.attribute(4));
        Due.notNow("nothing to add", () -> x.step(8, 0, 0));
        Due.notNow("no production", () -> new AttribArbor().read());

        DOC.says("If several apply, IndexOutOfBoundsException goes first, then IllegalArgumentException.");
        Due.noPlace("all three", () -> new AttribArbor().insert(1, 'g'));
        Due.badArgument("two of them", () -> new AttribArbor().insert(0, 'g'));
        Due.noPlace("the other two", () -> x.equation(0, 5, -1, 0));

        DOC.says("A call that throws an exception changes nothing.");
        Due.is("no production was added", x.production(3, -1, -1, -1), 2);
        Due.is("no attribute was added", x.attribute(UP), 5);
        Due.is("no step was added", x.dropSteps(), 0);
        Due.is("no letter was put in or taken out", x.read() == 202 && x.cost() == 0, true);
    }

    private static void constantsAndHeadings() {
        DOC.says("The constants: NONE = -1, CYCLE = -2, CONFLICT = -3, REFERENCE = 1000: What is told in place of a value;");
        Due.is("NONE", NONE, -1);
        Due.is("CYCLE", CYCLE, -2);
        Due.is("CONFLICT", CONFLICT, -3);
        Due.is("REFERENCE", REFERENCE, 1000);

        DOC.says("a reference to the node n, by the numbers of now, is told as REFERENCE + n.");
        Told t = Told.grammar(p(0, 1, 2), p(1, A, 1), p(1), p(2, B)).attributes(UP);
        t.self().up(3, 0);
        t.text("b");
        Due.is("the node is 2", t.ask(2, 0), REFERENCE + 2);
        Due.is("two more nodes ahead of it", t.x.insert(0, 'a') / 100 + t.x.insert(0, 'a') / 100, 4 + 5);
        Due.is("what was found is kept", t.x.isKept(4, 0), true);
        Due.is("the node is 4 now", t.ask(4, 0), REFERENCE + 4);
        Due.is("it was not found again", t.x.found(), 1);

        String[][] parts = {
            {"grammar", "production", "forward", "rule", "attribute", "step", "dropSteps", "equation", "toggle",
                "conflicts", "ringIn"},
            {"text and the tree", "insert", "delete", "read", "cost", "node", "rewrite"},
            {"asking", "value", "valueAnew", "found", "isKept", "why"},
        };
        DOC.says("Ahead of the calls production, forward, rule, attribute, step, dropSteps, equation, toggle, conflicts, "
                + "ringIn the interface says: ---- the grammar.");
        DOC.says("Ahead of the calls insert, delete, read, cost, node, rewrite the interface says: ---- the text and the "
                + "tree.");
        DOC.says("Ahead of the calls value, valueAnew, found, isKept, why the interface says: ---- asking.");
        String source = Document.source();
        int at = 0;
        for (String[] part : parts) {
            int next = source.indexOf("// ---- " + (part[0].equals("asking") ? "" : "the ") + part[0] + "\n", at);
            Due.is("the class says '" + part[0] + "' behind what stood ahead", next > at, true);
            at = next;
            for (int i = 1; i < part.length; i++) {
                int call = source.indexOf(" " + part[i] + "(", at);
                Due.is(part[i] + " stands behind that", call > at, true);
                at = call;
            }
        }
    }

    public static void main(String[] args) {
        attributes();
        equations();
        steps();
        lookedAt();
        forwards();
        upAndDown();
        gathered();
        rings();
        kept();
        refused();
        constantsAndHeadings();
        DOC.allIsQuotedUpTo("Promise 1: A new object");
        Due.end("DocAttributesTest");
    }
}
