/** Promises 18 to 22: what an attribute is, what is kept of it, and why it is so. */
public final class AskTest {
    private static final int NONE = AttribArbor.NONE;
    private static final int CYCLE = AttribArbor.CYCLE;
    private static final int CONFLICT = AttribArbor.CONFLICT;
    private static final int REFERENCE = AttribArbor.REFERENCE;

    private interface Teller {
        Told tell(Told t);
    }

    // Attributes of the tree for "abcbc": the one that is tried, a number, a conflict or a reference,
    // and a cycle at the root.
    private static final int TRIED = 0;
    private static final int PLAIN = 1;
    private static final int ODD = 2;
    private static final int ROUND = 3;

    /** 0 -> "a" 1 1, 1 -> "b" "c"; the node 1 has both letters, the node 2 has "c" put in. */
    private static Told threeNodes() {
        Told t = new Told();
        t.production(0, 4, 1, 1);
        t.production(1, 5, 6);
        for (int i = 0; i < 4; i++) {
            t.x.attribute(Told.UP);
        }
        t.number(7).up(0, PLAIN);
        t.letter(0).up(1, PLAIN);
        t.number(1).up(0, ODD);
        t.number(1).up(0, ODD);
        t.self().up(1, ODD);
        t.own(ROUND).up(0, ROUND);
        t.text("abcb");
        return t;
    }

    private static void is(String what, int due, Teller teller) {
        Told t = threeNodes();
        teller.tell(t).up(0, TRIED);
        Due.is("value: " + what, t.x.value(0, TRIED), due);
        Due.is("valueAnew: " + what, t.x.valueAnew(0, TRIED), due);
    }

    // ---- promise 18: expressions
    private static void leaves() {
        is("a number", 999, t -> t.number(999));
        is("its own", 7, t -> t.own(PLAIN));
        is("a child's", 2, t -> t.child(PLAIN, 1));
        is("of no child", NONE, t -> t.child(PLAIN, 2));
        is("without an equation", NONE, t -> t.child(ROUND, 0));
        is("a letter", 1, t -> t.letter(0));
        is("no letter", NONE, t -> t.letter(1));
        is("not put in", 0, t -> t.put(0));
        is("put of no letter", NONE, t -> t.put(2));
        is("itself", REFERENCE, t -> t.self());
        is("to a child", REFERENCE + 2, t -> t.at(1));
        is("to no child", NONE, t -> t.at(2));
        is("a conflict", CONFLICT, t -> t.own(ODD));
        is("a cycle", CYCLE, t -> t.own(ROUND));
        is("itself has to be looked at", CYCLE, t -> t.own(TRIED));
        is("its production", 0, t -> t.kind());
        is("of a reference", 2, t -> t.at(1).of(PLAIN));
        is("of a reference told by another", REFERENCE + 2, t -> t.child(ODD, 1).of(ODD));
        is("of a number", NONE, t -> t.number(1).of(PLAIN));
        is("of none", NONE, t -> t.at(2).of(PLAIN));
        is("of a conflict", CONFLICT, t -> t.own(ODD).of(PLAIN));
        is("of a cycle", CYCLE, t -> t.own(ROUND).of(PLAIN));
        Told t = threeNodes();
        t.put(1).up(1, TRIED);
        Due.is("value: there", t.x.value(1, TRIED), 0);
        Due.is("value: put in", t.x.value(2, TRIED), 1);
        t = threeNodes();
        t.letter(1).kind().mul().up(1, TRIED);
        Due.is("value: the second letter, and KIND", t.x.value(2, TRIED), 3);
    }

    private static void rootPutIn() {
        Told t = new Told();
        t.production(0, 5, 4, 5);
        int put = t.x.attribute(Told.UP);
        t.put(0).put(1).number(2).mul().add().up(0, put);
        t.text("a");
        Due.is("value: put in at the root", t.x.value(0, put), 1);
        t.x.delete(0);
        Due.is("value: both put in", t.x.value(0, put), 3);
        t.x.insert(0, 'b');
        Due.is("value: the second and the third one", t.x.value(0, put), 2 + 1);
    }

    private static void joined() {
        is("999 + 2", 1, t -> t.number(999).number(2).add());
        is("999 * 999", 1, t -> t.number(999).number(999).mul());
        is("32 * 32", 24, t -> t.number(32).number(32).mul());
        is("max 3 5", 5, t -> t.number(3).number(5).max());
        is("max 5 3", 5, t -> t.number(5).number(3).max());
        is("5 or 3", 7, t -> t.number(5).number(3).or());
        is("999 or 24", 23, t -> t.number(999).number(24).or());
        is("512 or 488", 0, t -> t.number(512).number(488).or());
        is("5 same 5", 1, t -> t.number(5).number(5).same());
        is("5 same 6", 0, t -> t.number(5).number(6).same());
        is("a node and itself", 1, t -> t.at(1).child(ODD, 1).same());
        is("a node and another", 0, t -> t.at(0).at(1).same());
        is("a node and a number", 0, t -> t.self().number(0).same());
        is("a number and a node", 0, t -> t.number(1).at(0).same());
        is("a node in place of the first", NONE, t -> t.self().number(1).add());
        is("a node in place of the second", NONE, t -> t.number(1).self().mul());
        is("max of nodes", NONE, t -> t.self().self().max());
        is("or of nodes", NONE, t -> t.self().number(1).or());
        is("none and more", NONE, t -> t.letter(1).own(ROUND).add());
        is("conflict and more", CONFLICT, t -> t.own(ODD).own(ROUND).max());
        is("cycle and more", CYCLE, t -> t.own(ROUND).own(ODD).or());
        is("cycle behind a number", CYCLE, t -> t.number(1).own(ROUND).mul());
        is("conflict behind a number", CONFLICT, t -> t.number(1).own(ODD).same());
        is("none and none are not alike, they are none", NONE, t -> t.letter(1).letter(1).same());
        is("none behind a number", NONE, t -> t.number(0).letter(1).same());
        is("deep", 21, t -> t.number(1).number(2).number(3).add().number(4).mul().add());
    }

    private static void chosen() {
        is("1 chooses the second", 5, t -> t.number(1).number(5).own(ROUND).choose());
        is("0 chooses the third", 6, t -> t.number(0).own(ROUND).number(6).choose());
        is("a reference is not 0", 5, t -> t.self().number(5).own(ROUND).choose());
        is("none chooses none", NONE, t -> t.letter(1).number(5).number(6).choose());
        is("a conflict chooses none", CONFLICT, t -> t.own(ODD).number(5).number(6).choose());
        is("none is chosen", NONE, t -> t.number(1).at(2).number(6).choose());
        is("a reference is chosen", REFERENCE + 1, t -> t.number(0).number(5).at(0).choose());
        is("joined in the third", 9, t -> t.number(0).own(ROUND).number(4).number(5).add().choose());
        is("joined in the second", 9, t -> t.number(1).number(4).number(5).add().own(ROUND).choose());
        is("joined in the first", 8, t -> t.number(4).number(996).add().number(7).number(8).choose());
        is("behind it goes on", 11, t -> t.number(1).number(5).own(ROUND).choose().number(6).add());
        is("and behind the third", 12, t -> t.number(0).own(ROUND).number(6).choose().number(6).add());
        is("chosen in the chosen one", 3, t -> t.number(1).number(0).number(2).number(3).choose().number(4).choose());
        is("chosen as the first one", 3, t -> t.number(1).number(0).number(5).choose().number(2).number(3).choose());
    }

    // ---- promise 18: UP, DOWN
    private static void down() {
        Told t = new Told();
        AttribArbor x = t.x;
        int named = t.production(0, 4, 0);
        int remote = t.production(0, 5, 0);
        t.production(0);
        int up = x.attribute(Told.UP);
        int down = x.attribute(Told.DOWN);
        t.letter(0).number(4).add().down(named, down, 0);
        t.number(9).up(named, up);
        t.text("abba");
        Due.is("value: DOWN at the root", x.value(0, down), NONE);
        Due.is("value: DOWN, at the parent", x.value(1, down), 5);
        Due.is("value: DOWN over a remote place", x.value(2, down), 5);
        Due.is("value: DOWN over two", x.value(3, down), 5);
        Due.is("value: UP without an equation", x.value(1, up), NONE);
        Due.is("value: UP", x.value(0, up), 9);
        t.own(down).number(1).add();
        x.equation(remote, down, 0, 1);
        Due.is("value: DOWN, counted", x.value(3, down), 7);
        t.number(1);
        x.equation(remote, down, 0, 2);
        Due.is("value: DOWN, in conflict", x.value(2, down), CONFLICT);
        Due.is("value: DOWN, from a conflict, in another one", x.value(3, down), CONFLICT);
        Due.is("value: DOWN, none of the conflict", x.value(4, down), 5);
        Due.noPlace("value: node 5", () -> x.value(5, down));
        Due.noPlace("value: node -1", () -> x.value(-1, down));
        Due.noPlace("value: attribute 2", () -> x.value(0, 2));
        Due.noPlace("value: attribute -1", () -> x.value(0, -1));
        Due.noPlace("valueAnew: node 5", () -> x.valueAnew(5, down));
        Due.noPlace("valueAnew: node -1", () -> x.valueAnew(-1, down));
        Due.noPlace("valueAnew: attribute 2", () -> x.valueAnew(0, 2));
        Due.noPlace("valueAnew: attribute -1", () -> x.valueAnew(0, -1));
    }

    private static void cycles() {
        Told t = new Told();
        AttribArbor x = t.x;
        t.production(0, 0, 4);
        t.production(0, 5);
        int up = x.attribute(Told.UP);
        int down = x.attribute(Told.DOWN);
        int beside = x.attribute(Told.UP);
        t.child(up, 0).up(0, up);
        t.own(down).up(1, up);
        t.child(up, 0).down(0, down, 0);
        t.number(5).child(up, 0).add().up(0, beside);
        t.number(1).number(6).child(up, 0).choose().up(1, beside);
        t.text("ba");
        Due.is("value: the child's own on the way", x.value(0, up), CYCLE);
        Due.is("value: found by that", x.value(0, beside), CYCLE);
        Due.is("value: not looked at", x.value(1, beside), 6);
        Due.is("found: CYCLE ones too", x.found(), 5);
        Due.is("isKept: CYCLE ones too", x.isKept(1, down), true);
        Due.is("valueAnew: begun elsewhere", x.valueAnew(1, down), CYCLE);
        Due.is("valueAnew: and there", x.valueAnew(1, up), CYCLE);
    }

    // ---- promise 18: GATHERED
    /** 0 -> 1, 1 -> "a" 1, 1 -> "b" 1, 1 -> nothing; DOWN 0 is the root. */
    private static Told givers() {
        Told t = new Told();
        t.production(0, 1);
        t.production(1, 4, 1);
        t.production(1, 5, 1);
        t.production(1);
        t.x.attribute(Told.DOWN);
        t.x.attribute(Told.GATHERED);
        t.x.attribute(Told.UP);
        t.self().down(0, 0, 0);
        return t;
    }

    private static void gathered() {
        Told t = givers();
        AttribArbor x = t.x;
        t.text("aba");
        Due.is("value: nothing is given", x.value(0, 1), 0);
        t.own(0).number(400).gift(1, 1);
        Due.is("value: two give", x.value(0, 1), 800);
        t.own(0).number(300).gift(1, 1);
        Due.is("value: by 1000", x.value(0, 1), 400);
        Due.is("value: nothing is given to others", x.value(1, 1), 0);
        t.at(0).number(11).gift(2, 1);
        Due.is("value: to a child", x.value(3, 1), 11);
        t.own(0).self().gift(2, 1);
        t.own(0).letter(2).gift(2, 1);
        t.letter(2).number(9).gift(2, 1);
        t.number(3).number(9).gift(2, 1);
        Due.is("value: references and none add nothing", x.value(0, 1), 400);
        t.own(0).number(5).gift(2, 1);
        Due.is("value: another one behind them", x.value(0, 1), 405);
        t.self().own(2).gift(2, 1);
        t.own(2).up(2, 2);
        Due.is("value: a cycle for another node is not looked at", x.value(0, 1), 405);
        Due.is("value: for that node it is", x.value(2, 1), CYCLE);
        t.own(2).number(1).gift(2, 1);
        Due.is("value: a cycle as the first one", x.value(0, 1), CYCLE);
        t = givers();
        t.text("ab");
        t.self().of(1).number(1).gift(2, 1);
        Due.is("value: itself on the way", t.x.value(2, 1), CYCLE);
        Due.is("value: looks at that", t.x.value(0, 1), CYCLE);
    }

    private static void gatheredConflict() {
        Told t = givers();
        AttribArbor x = t.x;
        t.text("ab");
        t.number(1).up(1, 2);
        t.number(1).up(1, 2);
        t.self().own(2).gift(1, 1);
        Due.is("value: a conflict as the second one", x.value(1, 1), CONFLICT);
        Due.is("value: not for the others", x.value(0, 1), 0);
        t.own(2).number(1);
        x.equation(1, 1, -2, 2);
        Due.is("value: a conflict as the first one", x.value(0, 1), CONFLICT);
        x.toggle(2);
        Due.is("value: an aspect off", x.value(0, 1), 0);
        t.own(2).number(1).gift(1, 1);
        t.own(0).number(3).gift(0, 1);
        t.own(0).number(3).gift(3, 1);
        Due.is("found: before", x.found(), 6);
        Due.is("value: of none, then a conflict", x.value(0, 1), CONFLICT);
        Due.is("found: no more is looked at behind it", x.found(), 9);
    }

    // ---- promise 18: forwards
    private static void forwards() {
        Told t = new Told();
        AttribArbor x = t.x;
        t.production(0, 1, 4, 2);
        t.production(0, 2, 5, 1);
        t.production(1, 6);
        t.production(2, 4);
        int up = x.attribute(Told.UP);
        int down = x.attribute(Told.DOWN);
        int other = x.attribute(Told.UP);
        int gathered = x.attribute(Told.GATHERED);
        t.child(other, 0).number(10).mul().child(other, 1).add().up(1, up);
        t.number(2).up(2, other);
        t.number(3).up(3, other);
        t.kind().number(60).add().down(1, down, 0);
        t.letter(0).down(1, down, 1);
        t.self().number(4).gift(1, gathered);
        t.text("caa");
        Due.is("forward: not yet", x.value(0, up), NONE);
        x.forward(0, 1, 1, 0, 0);
        Due.is("forward: the children that stand there", x.value(0, up), 32);
        Due.is("forward: DOWN by the child that stands there, KIND of the node", x.value(2, down), 60);
        Due.is("forward: letters are none", x.value(1, down), NONE);
        Due.is("forward: contributions do not matter", x.value(0, gathered), 0);
        t.put(0);
        x.equation(1, other, -1, 1);
        Due.is("forward: put is none", x.value(0, other), NONE);
        t.at(2).up(0, other);
        Due.is("forward: its own goes first", x.value(0, other), NONE);
        x.toggle(1);
        t.self();
        x.equation(1, other, -1, 2);
        x.toggle(0);
        Due.is("forward: SELF is the node", x.value(0, other), REFERENCE);
        t.at(0);
        x.equation(1, up, -1, 2);
        Due.is("forward: AT the child that stands there", x.value(0, up), REFERENCE + 2);
        t.at(2);
        x.equation(1, up, -1, 3);
        Due.is("forward: a conflict there", x.value(0, up), CONFLICT);
        x.toggle(2);
        Due.is("forward: no such child there", x.value(0, up), NONE);
    }

    private static void fewerChildren() {
        Told t = new Told();
        AttribArbor x = t.x;
        t.production(0, 1, 1, 1);
        t.production(0, 1, 1);
        t.production(0, 1, 5, 5);
        t.production(1, 4);
        int up = x.attribute(Told.UP);
        int down = x.attribute(Told.DOWN);
        t.at(1).up(1, up);
        t.number(5).down(1, down, 0);
        t.number(6).down(1, down, 1);
        t.number(7).down(2, down, 0);
        t.text("aaa");
        x.forward(0, 1, 2, 2, 0);
        Due.is("forward: one child stands for two", x.value(0, up), REFERENCE + 3);
        Due.is("forward: DOWN, the first child there", x.value(3, down), 5);
        Due.is("forward: DOWN, a child that stands for none", x.value(1, down), NONE);
        x.forward(1, 2, 1, 0, 0);
        Due.is("forward: DOWN, its equation there is nearer", x.value(3, down), 5);
        x.toggle(0);
        t.number(8);
        x.equation(2, down, 0, 1);
        t.child(up, 0);
        x.equation(2, up, -1, 1);
        t.number(44);
        x.equation(3, up, -1, 1);
        Due.is("forward: DOWN, behind two", x.value(3, down), 8);
        Due.is("forward: DOWN, behind two for none", x.value(2, down), NONE);
        Due.is("forward: UP, behind two", x.value(0, up), 44);
        x.forward(0, 1, 0, 1, 0);
        Due.is("forward: over all forwards on the way", x.value(2, down), 8);
        Due.is("forward: not that one now", x.value(1, down), NONE);
        x.forward(0, -1, 0, 0, 0);
        Due.is("forward: no more", x.value(0, up), NONE);
    }

    private static void highNumbers() {
        Told t = new Told();
        AttribArbor x = t.x;
        for (int i = 0; i < 8; i++) {
            t.production(3, 4);
        }
        t.production(0, 1, 1, 1);
        t.production(1, 5);
        for (int i = 0; i < 5; i++) {
            x.attribute(Told.UP);
        }
        int down = x.attribute(Told.DOWN);
        t.number(6).down(8, down, 0);
        t.kind().down(8, down, 2);
        t.child(4, 2).child(4, 0).number(10).mul().add().up(8, 0);
        t.own(down).up(9, 4);
        t.text("bb");
        Due.is("value: the last attribute, child 2", x.value(3, down), 8);
        Due.is("value: the last attribute, child 0", x.value(1, down), 6);
        Due.is("value: the last production", x.value(0, 0), 68);
        Told f = new Told();
        for (int i = 0; i < 8; i++) {
            f.production(1, 5);
        }
        f.production(0, 1, 1, 1);
        f.production(0, 4, 4, 4);
        Due.noPlace("forward: no children", () -> f.x.forward(9, 8, 0, 0, 0));
        Told g = new Told();
        for (int i = 0; i < 8; i++) {
            g.production(1, 5);
        }
        g.production(0, 1, 1, 1);
        g.production(0, 1, 1, 1);
        int up = g.x.attribute(Told.UP);
        g.at(2).up(9, up);
        g.x.forward(8, 9, 1, 0, 1);
        g.text("bbb");
        Due.is("forward: the child 2 of the last production", g.x.value(0, up), REFERENCE + 2);
    }

    /** All attributes of 30 nodes, one behind the other, one below the other: up and down, three times. */
    private static void deep() {
        Told t = new Told();
        AttribArbor x = t.x;
        t.production(0, 1);
        t.production(1, 2);
        t.production(2, 3);
        t.production(3, 4, 1);
        t.production(3, 6, 3);
        t.production(1);
        for (int a = 0; a < 6; a++) {
            x.attribute(a % 2 == 0 ? Told.UP : Told.DOWN);
        }
        for (int a = 0; a < 6; a += 2) {
            for (int p = 0; p < 5; p++) {
                t.child(a, 0).up(p, a);
            }
            t.own(a + 1).up(5, a);
        }
        t.own(2).down(0, 1, 0);
        t.own(4).down(0, 3, 0);
        t.number(77).down(0, 5, 0);
        Due.is("deep: 30 nodes", t.text("caaaaaaaaa") / 100, 30);
        Due.is("deep: anew", x.valueAnew(0, 0), 77);
        Due.is("deep", x.value(0, 0), 77);
        Due.is("deep: all of them", x.found(), 177);
        t.own(0);
        x.equation(0, 5, 0, 1);
        x.toggle(1);
        Due.is("deep: kept again", x.value(29, 4), 77);
        Due.is("deep: from the middle", x.found(), 207);
    }

    private static void atMostThree() {
        Told t = new Told();
        AttribArbor x = t.x;
        for (int i = 0; i < 5; i++) {
            t.production(0, 4 + i);
        }
        int up = x.attribute(Told.UP);
        t.number(3);
        x.equation(3, up, -1, 3);
        t.number(4).up(4, up);
        for (int i = 0; i < 4; i++) {
            x.forward(i, i + 1, 0, 0, 0);
        }
        t.text("a");
        Due.is("forward: behind three", x.value(0, up), 3);
        x.toggle(3);
        Due.is("forward: not behind four", x.value(0, up), NONE);
        x.forward(2, 0, 0, 0, 0);
        Due.is("forward: round and round", x.value(0, up), NONE);
        x.forward(2, 4, 0, 0, 0);
        Due.is("forward: another way", x.value(0, up), 4);
    }

    // ---- promise 18: RING
    private static Told ringed(Teller teller) {
        Told t = new Told();
        t.production(0, 4, 0);
        t.production(0, 5);
        t.x.attribute(Told.RING);
        t.x.attribute(Told.UP);
        teller.tell(t);
        t.text("aab");
        return t;
    }

    private static void rings() {
        Told t = ringed(r -> r);
        Due.is("RING: without an equation", t.x.value(0, 0), NONE);
        t = ringed(r -> {
            r.own(0).number(3).max().up(0, 0);
            return r;
        });
        Due.is("RING: it stands still", t.x.value(0, 0), 3);
        Due.is("RING: valueAnew", t.x.valueAnew(1, 0), 3);
        Due.is("RING: not counted", t.x.found(), 0);
        Due.is("RING: not kept", t.x.isKept(0, 0), false);
        t = ringed(r -> {
            r.own(0).number(0).same().up(0, 0);
            r.number(5).up(1, 0);
            return r;
        });
        t.own(0).up(0, 1);
        Due.is("RING: it never stands still", t.x.value(1, 0), CYCLE);
        Due.is("RING: looked at, found anew", t.x.valueAnew(0, 1), CYCLE);
        reads("RING: looked at in the end", t.x, 0, 1, 0);
        Due.is("RING: then all are CYCLE", t.x.value(2, 0), CYCLE);
        t = ringed(r -> {
            r.self().up(0, 0);
            r.number(5).up(1, 0);
            return r;
        });
        Due.is("RING: a reference is none", t.x.value(0, 0), NONE);
        Due.is("RING: a number", t.x.value(2, 0), 5);
        t = ringed(r -> {
            r.child(0, 0).number(1).add().up(0, 0);
            r.number(7).up(1, 0);
            return r;
        });
        Due.is("RING: from below, anew", t.x.valueAnew(0, 0), 9);
        Due.is("RING: from below", t.x.value(0, 0), 9);
        t.x.delete(0);
        Due.is("RING: the text is another one", t.x.value(0, 0), 8);
        t.x.toggle(0);
        Due.is("RING: nothing counts", t.x.value(0, 0), NONE);
        t.x.toggle(0);
        Due.is("RING: found anew again", t.x.valueAnew(1, 0), 7);
        t = ringed(r -> {
            r.own(1).up(0, 0);
            r.own(0).number(1).or().up(0, 1);
            return r;
        });
        Due.is("RING: over an UP one", t.x.value(0, 0), 1);
        Due.is("RING: that UP one is no cycle", t.x.value(0, 1), 1);
        Due.is("RING: the UP one is counted once", t.x.found(), 1);
        t = ringed(r -> {
            r.own(1).up(0, 0);
            r.own(1).up(0, 1);
            return r;
        });
        Due.is("RING: what it looks at is a cycle", t.x.value(0, 0), CYCLE);
        Due.is("RING: not the others", t.x.value(2, 0), NONE);
    }

    private static void thirtyRounds() {
        for (int last = 28; last < 32; last++) {
            int most = last;
            Told t = ringed(r -> {
                r.own(0).number(most).same().number(most).own(0).number(1).add().choose().up(0, 0);
                r.number(0).up(1, 0);
                return r;
            });
            Due.is("RING: " + last + " rounds that change one", t.x.value(0, 0), last < 30 ? last : CYCLE);
            Due.is("RING: the last node, " + last, t.x.value(2, 0), last < 30 ? 0 : CYCLE);
        }
    }

    private static void roundsAtOnce() {
        Told t = new Told();
        AttribArbor x = t.x;
        t.production(0, 4);
        x.attribute(Told.RING);
        x.attribute(Told.RING);
        x.attribute(Told.RING);
        // 0 and 1 take turns from what both were: were 1 found from the new 0, they would stand still.
        t.own(1).number(0).same().up(0, 0);
        t.own(0).number(0).same().number(0).same().up(0, 1);
        t.number(4).up(0, 2);
        x.read();
        Due.is("RING: all from the round ahead", x.value(0, 0), CYCLE);
        Due.is("RING: all of them", x.value(0, 2), CYCLE);
    }

    // ---- promises 20 and 21
    private static void counted() {
        Told t = new Told();
        AttribArbor x = t.x;
        t.production(0, 4, 0);
        t.production(0, 5);
        int up = x.attribute(Told.UP);
        int down = x.attribute(Told.DOWN);
        int other = x.attribute(Told.UP);
        t.child(up, 0).number(1).add().up(0, up);
        t.own(down).up(1, up);
        t.number(2).down(0, down, 0);
        t.text("aab");
        Due.is("found: none", x.found(), 0);
        Due.is("valueAnew: keeps nothing", x.valueAnew(0, up), 4);
        Due.is("found: none still", x.found(), 0);
        Due.is("isKept: nothing", x.isKept(0, up), false);
        Due.is("value: counts", x.value(0, up), 4);
        Due.is("found: with those on the way", x.found(), 4);
        Due.is("isKept: on the way", x.isKept(2, up), true);
        Due.is("isKept: on the way, DOWN", x.isKept(2, down), true);
        Due.is("isKept: not looked at", x.isKept(1, down), false);
        Due.is("isKept: never asked", x.isKept(0, other), false);
        x.value(0, up);
        x.value(1, up);
        Due.is("found: it is kept", x.found(), 4);
        x.value(0, other);
        Due.is("found: NONE is kept as well", x.found(), 5);
        Due.is("isKept: NONE", x.isKept(0, other), true);
        Due.noPlace("isKept: node 3", () -> x.isKept(3, 0) ? 1 : 0);
        Due.noPlace("isKept: node -1", () -> x.isKept(-1, 0) ? 1 : 0);
        Due.noPlace("isKept: attribute 3", () -> x.isKept(0, 3) ? 1 : 0);
        Due.noPlace("isKept: attribute -1", () -> x.isKept(0, -1) ? 1 : 0);
        x.read();
        x.insert(3, 'c');
        Due.is("isKept: the tree is as it was", x.isKept(0, up), true);
        x.insert(0, 'a');
        Due.is("isKept: it hangs on what got another child", x.isKept(0, up), false);
        Due.is("isKept: it hangs on nothing else", x.isKept(0, other), true);
        Due.is("isKept: a new node", x.isKept(2, up), false);
    }

    private static void told() {
        Teller[] tellers = {
            t -> t.x.production(3, -1, -1, -1) < 0 ? null : t,
            t -> t.x.attribute(Told.UP) < 0 ? null : t,
            t -> t.number(1).up(1, 1) < 0 ? null : t,
            t -> t.x.toggle(3) ? null : t,
            t -> t.x.forward(0, -1, 0, 0, 0) < -1 ? null : t,
            t -> t.x.rule(0, 0, 2) < -1 ? null : t,
        };
        for (int i = 0; i < tellers.length; i++) {
            Told t = new Told();
            t.production(0, 4);
            t.production(1, 4);
            t.production(0, 5);
            t.x.attribute(Told.UP);
            t.x.attribute(Told.UP);
            t.number(3).up(0, 0);
            t.text("a");
            t.x.value(0, 0);
            Due.is("told: kept ahead of " + i, t.x.isKept(0, 0), true);
            Due.is("told: the call " + i, tellers[i].tell(t) == null, false);
            Due.is("told: dropped by " + i, t.x.isKept(0, 0), false);
            t.x.value(0, 0);
            Due.is("told: made again behind " + i, t.x.found(), 2);
        }
        Told t = new Told();
        t.production(0, 4);
        t.x.attribute(Told.UP);
        t.text("a");
        t.x.value(0, 0);
        t.number(1);
        t.x.dropSteps();
        t.x.conflicts();
        t.x.ringIn();
        t.x.valueAnew(0, 0);
        Due.noPlace("told: why", () -> t.x.why(0, 0, 0));
        Due.notNow("told: refused", () -> t.x.equation(0, 0, -1, 0));
        Due.noPlace("told: refused as well", () -> t.x.forward(0, 1, 0, 0, 0));
        Due.badArgument("told: refused too", () -> t.x.attribute(4));
        Due.is("told: not dropped by others", t.x.isKept(0, 0), true);
    }

    private static void dropped() {
        Told t = new Told();
        AttribArbor x = t.x;
        t.production(0, 1, 1);
        t.production(1, 4);
        t.production(1, 5);
        t.production(1, 5, 6);
        int up = x.attribute(Told.UP);
        int down = x.attribute(Told.DOWN);
        int gathered = x.attribute(Told.GATHERED);
        int ring = x.attribute(Told.RING);
        int looking = x.attribute(Told.UP);
        int around = x.attribute(Told.UP);
        t.at(1).of(looking).up(0, up);
        t.number(1).down(0, down, 0);
        t.self().number(1).gift(1, gathered);
        t.own(ring).up(1, looking);
        t.own(around).up(1, around);
        t.text("ab");
        Due.is("dropped: first", t.x.node(2), 1020);
        int[][] slots = {{0, up}, {0, down}, {1, down}, {0, gathered}, {1, gathered}, {1, looking}, {2, looking}, {1, around},
            {1, up}};
        for (int[] slot : slots) {
            x.value(slot[0], slot[1]);
        }
        Due.is("dropped: made", x.found(), 9);
        x.insert(2, 'c');
        Due.is("dropped: a new node", x.node(2), 1030);
        boolean[] kept = {false, false, false, false, false, false, false, false, true};
        for (int i = 0; i < slots.length; i++) {
            Due.is("dropped: kept " + i, x.isKept(slots[i][0], slots[i][1]), kept[i]);
        }
    }

    private static void droppedByRewriting() {
        Told t = new Told();
        AttribArbor x = t.x;
        t.production(0, 4, 0);
        t.production(0, 5, 0);
        t.production(0);
        int rule = x.attribute(Told.UP);
        int down = x.attribute(Told.DOWN);
        int gathered = x.attribute(Told.GATHERED);
        int own = x.attribute(Told.UP);
        t.number(1).up(0, rule);
        t.number(1).down(0, down, 0);
        t.child(own, 0).up(0, own);
        t.self().number(1).gift(0, gathered);
        x.rule(0, rule, 1);
        t.text("aaa");
        for (int n = 0; n < 4; n++) {
            for (int a = 0; a < 4; a++) {
                x.value(n, a);
            }
        }
        Due.is("rewritten: made", x.found(), 16);
        Due.is("rewritten", x.rewrite(1), 1);
        Due.is("rewritten: made no more", x.found(), 16);
        boolean[][] kept = {
            {true, true, false, false}, {false, false, false, false}, {true, false, false, true}, {true, true, false, true},
        };
        for (int n = 0; n < 4; n++) {
            for (int a = 0; a < 4; a++) {
                Due.is("rewritten: kept " + n + ", " + a, x.isKept(n, a), kept[n][a]);
            }
        }
        Due.is("rewritten: no other child", x.rewrite(1), 1);
    }

    private static void renumbered() {
        Told t = new Told();
        AttribArbor x = t.x;
        t.production(0, 1, 2);
        t.production(1, 4, 1);
        t.production(1);
        t.production(2, 5, 2);
        t.production(2);
        int ref = x.attribute(Told.UP);
        int far = x.attribute(Told.DOWN);
        int kind = x.attribute(Told.UP);
        t.self().up(4, ref);
        t.child(ref, 0).up(3, ref);
        t.own(ref).down(3, far, 0);
        t.kind().number(10).add().up(4, kind);
        t.text("bb");
        Due.is("renumbered: node 4", x.node(4), 4040);
        Due.is("renumbered: a reference", x.value(2, ref), REFERENCE + 4);
        Due.is("renumbered: a reference, DOWN", x.value(3, far), REFERENCE + 4);
        Due.is("renumbered: a number", x.value(4, kind), 14);
        int made = x.found();
        Due.is("renumbered: two nodes ahead", x.insert(0, 'a'), 604);
        Due.is("renumbered: kept", x.isKept(3, ref), true);
        Due.is("renumbered: not there any more", x.isKept(2, ref), false);
        Due.is("renumbered: the reference of now", x.value(3, ref), REFERENCE + 5);
        Due.is("renumbered: DOWN", x.value(4, far), REFERENCE + 5);
        Due.is("renumbered: the number", x.value(5, kind), 14);
        Due.is("renumbered: nothing was found", x.found(), made);
        x.insert(3, 'b');
        Due.is("renumbered: what it hangs on as well", x.isKept(3, ref), false);
        Due.is("renumbered: a new end", x.value(3, ref), REFERENCE + 6);
    }

    // ---- promise 22
    private static void reads(String what, AttribArbor x, int node, int attribute, int... due) {
        for (int i = 0; i < due.length; i++) {
            Due.is("why: " + what + ", read " + i, x.why(node, attribute, i), due[i]);
        }
        Due.noPlace("why: " + what + ", one more", () -> x.why(node, attribute, due.length));
        Due.noPlace("why: " + what + ", read -1", () -> x.why(node, attribute, -1));
    }

    private static void why() {
        Told t = new Told();
        AttribArbor x = t.x;
        t.production(0, 1, 1, 1);
        t.production(1, 4);
        int up = x.attribute(Told.UP);
        int down = x.attribute(Told.DOWN);
        int gathered = x.attribute(Told.GATHERED);
        int ring = x.attribute(Told.RING);
        int odd = x.attribute(Told.UP);
        int other = x.attribute(Told.UP);
        t.child(up, 1).child(up, 0).add().child(up, 1).add().own(ring).add().up(0, up);
        t.letter(0).up(1, up);
        t.own(up).down(0, down, 1);
        t.own(other).child(up, 2).gift(0, gathered);
        t.self().own(down).gift(1, gathered);
        t.own(ring).number(2).max().own(ring).max().up(0, ring);
        t.own(down).up(1, ring);
        t.self().up(0, other);
        t.number(1).up(1, odd);
        t.number(1).up(1, odd);
        t.at(2).of(down).own(up).add().own(odd).own(up).choose().up(0, odd);
        t.text("aaa");
        reads("each once, in their order", x, 0, up, 20, 10, 3);
        reads("a letter", x, 1, up);
        reads("DOWN by the parent's equation", x, 2, down, 0);
        reads("DOWN without one", x, 1, down, 1);
        reads("DOWN at the root", x, 0, down);
        reads("without an equation", x, 1, other);
        reads("GATHERED, to the root", x, 0, gathered, 5, 30);
        reads("GATHERED, to a child", x, 2, gathered, 5, 21);
        reads("RING", x, 0, ring, 3);
        reads("RING, of another kind", x, 1, ring, 11);
        reads("a conflict", x, 1, odd);
        reads("NONE ends it", x, 0, odd, 31);
        Due.is("why: keeps nothing", x.found(), 0);
        Due.is("why: is kept", x.isKept(0, up), false);
        x.value(0, up);
        reads("found anew", x, 0, up, 20, 10, 3);
        Due.noPlace("why: node 4", () -> x.why(4, up, 0));
        Due.noPlace("why: node -1", () -> x.why(-1, up, 0));
        Due.noPlace("why: attribute 6", () -> x.why(0, 6, 0));
        Due.noPlace("why: attribute -1", () -> x.why(0, -1, 0));
        Due.noPlace("why: read, highest", () -> x.why(0, up, Integer.MAX_VALUE));
    }

    private static void whyByRings() {
        Told t = new Told();
        AttribArbor x = t.x;
        t.production(0, 4);
        int ring = x.attribute(Told.RING);
        int chosen = x.attribute(Told.UP);
        int one = x.attribute(Told.UP);
        int self = x.attribute(Told.UP);
        t.number(1).up(0, ring);
        t.own(ring).own(one).number(0).choose().up(0, chosen);
        t.own(self).own(one).add().up(0, self);
        t.text("a");
        reads("RING ones as they are in the end", x, 0, chosen, 0, 2);
        reads("itself, and nothing behind the cycle", x, 0, self, 3);
    }

    public static void main(String[] args) {
        leaves();
        rootPutIn();
        joined();
        chosen();
        down();
        cycles();
        gathered();
        gatheredConflict();
        forwards();
        fewerChildren();
        atMostThree();
        highNumbers();
        deep();
        rings();
        thirtyRounds();
        roundsAtOnce();
        counted();
        told();
        dropped();
        droppedByRewriting();
        renumbered();
        why();
        whyByRings();
        Due.end("AskTest");
    }
}
