/**
 * Promises 18 to 22 at their boundaries: numbers by 1000, children and letters that are not there, three
 * forwards, thirty rounds, what is dropped and what is counted, and how many reads there are.
 */
public final class EdgeAskTest {
    private static final int LOW = Integer.MIN_VALUE;
    private static final int HIGH = Integer.MAX_VALUE;
    private static final int NONE = AttribArbor.NONE;
    private static final int CYCLE = AttribArbor.CYCLE;
    private static final int CONFLICT = AttribArbor.CONFLICT;
    private static final int REFERENCE = AttribArbor.REFERENCE;

    private interface Teller {
        Told tell(Told t);
    }

    // Attributes of the root of "ab": the one that is tried, a conflict, a cycle, nothing, a reference.
    private static final int TRIED = 0;
    private static final int ODD = 1;
    private static final int ROUND = 2;
    private static final int EMPTY = 3;
    private static final int REF = 4;

    /** 0 -> "a" 1, 1 -> "b". */
    private static Told twoNodes() {
        Told t = new Told();
        t.production(0, 4, 1);
        t.production(1, 5);
        for (int i = 0; i < 5; i++) {
            t.x.attribute(Told.UP);
        }
        t.number(1).up(0, ODD);
        t.number(1).up(0, ODD);
        t.own(ROUND).up(0, ROUND);
        t.at(0).up(0, REF);
        t.text("ab");
        return t;
    }

    /** What an expression is; and, if some are given, at which attributes it looks. */
    private static void is(String what, int due, Teller teller, int... reads) {
        Told t = twoNodes();
        teller.tell(t).up(0, TRIED);
        readsAre(what, t.x, 0, TRIED, reads);
        Due.is("anew: " + what, t.x.valueAnew(0, TRIED), due);
        Due.is(what, t.x.value(0, TRIED), due);
        Due.is("anew, behind that: " + what, t.x.valueAnew(0, TRIED), due);
        Due.is("kept: " + what, t.x.isKept(0, TRIED), true);
    }

    private static void readsAre(String what, AttribArbor x, int node, int attribute, int... due) {
        for (int i = 0; i < due.length; i++) {
            Due.is("why: " + what + ", read " + i, x.why(node, attribute, i), due[i]);
        }
        for (int bad : new int[] {LOW, -1, due.length, due.length + 1, HIGH}) {
            Due.noPlace("why: " + what + ", read " + bad, () -> x.why(node, attribute, bad));
        }
    }

    // "8 ADD, 9 MUL, 10 MAX, 11 OR (bit by bit): take two; by 1000."
    private static void byThousand() {
        int[][] adds = {{0, 0, 0}, {0, 999, 999}, {499, 500, 999}, {500, 500, 0}, {1, 999, 0}, {999, 1, 0}, {999, 999, 998}};
        int[][] muls = {{0, 999, 0}, {1, 999, 999}, {27, 37, 999}, {25, 40, 0}, {7, 143, 1}, {2, 500, 0}, {999, 999, 1}};
        int[][] maxs = {{0, 0, 0}, {0, 999, 999}, {999, 0, 999}, {999, 999, 999}, {998, 999, 999}, {999, 998, 999}};
        int[][] ors = {{0, 0, 0}, {0, 999, 999}, {999, 0, 999}, {1, 998, 999}, {512, 487, 999}, {512, 488, 0}, {512, 489, 1},
            {999, 999, 999}, {511, 512, 23}, {999, 24, 23}};
        for (int[] r : adds) {
            is(r[0] + " + " + r[1], r[2], t -> t.number(r[0]).number(r[1]).add());
        }
        for (int[] r : muls) {
            is(r[0] + " * " + r[1], r[2], t -> t.number(r[0]).number(r[1]).mul());
        }
        for (int[] r : maxs) {
            is("max " + r[0] + " " + r[1], r[2], t -> t.number(r[0]).number(r[1]).max());
        }
        for (int[] r : ors) {
            is(r[0] + " or " + r[1], r[2], t -> t.number(r[0]).number(r[1]).or());
        }
    }

    // "0 NUMBER a: the number a, 0 to 999"
    private static void numbers() {
        for (int number : new int[] {0, 1, 500, 998, 999}) {
            is("the number " + number, number, t -> t.number(number));
        }
    }

    // "3 LETTER a: 1 to 6 for its letter a, "a" to "f"."
    private static void letters() {
        for (int first = 4; first < 7; first++) {
            Told t = new Told();
            t.production(0, first, 13 - first, first + 1);
            for (int i = 0; i < 3; i++) {
                t.x.attribute(Told.UP);
                t.letter(i).up(0, i);
            }
            t.x.read();
            Due.is("letter 0, " + first, t.x.value(0, 0), first - 3);
            Due.is("letter 1, " + first, t.x.value(0, 1), 10 - first);
            Due.is("letter 2, " + first, t.x.value(0, 2), first - 2);
        }
    }

    // "A child or a letter that the node does not have is NONE."
    private static void notThere() {
        for (int many = 0; many < 4; many++) {
            Told t = new Told();
            t.production(0, new int[][] {{4, 4, 4}, {4, 1, 4}, {1, 4, 1}, {1, 1, 1}}[many]);
            t.production(1);
            int letter = t.x.attribute(Told.UP);
            int put = t.x.attribute(Told.UP);
            int child = t.x.attribute(Told.UP);
            int at = t.x.attribute(Told.UP);
            int of = t.x.attribute(Told.UP);
            t.number(7);
            t.x.equation(1, child, -1, 3);
            for (int i = 0; i < 3; i++) {
                t.letter(i);
                t.x.equation(0, letter, -1, i);
                t.put(i);
                t.x.equation(0, put, -1, i);
                t.child(child, i);
                t.x.equation(0, child, -1, i);
                t.at(i);
                t.x.equation(0, at, -1, i);
                t.at(i).of(child);
                t.x.equation(0, of, -1, i);
                t.x.toggle(i);
            }
            t.x.read();
            for (int i = 0; i < 3; i++) {
                String what = i + " of " + many + " children: ";
                t.x.toggle(i);
                Due.is(what + "LETTER", t.x.value(0, letter), i < 3 - many ? 1 : NONE);
                Due.is(what + "PUT", t.x.value(0, put), i < 3 - many ? 1 : NONE);
                Due.is(what + "CHILD", t.x.value(0, child), i < many ? 7 : NONE);
                Due.is(what + "AT", t.x.value(0, at), i < many ? REFERENCE + 1 + i : NONE);
                Due.is(what + "OF", t.x.value(0, of), i < many ? 7 : NONE);
                t.x.toggle(i);
            }
        }
    }

    // "where the first one of two is something in place of a value, the whole is just that, and the second one
    // is not looked at; likewise the second one then"
    private static void inPlaceOfAValue() {
        int[] due = {CONFLICT, CYCLE, NONE};
        int[] from = {ODD, ROUND, EMPTY};
        for (int kind = 8; kind < 13; kind++) {
            int k = kind;
            for (int i = 0; i < 3; i++) {
                int odd = from[i];
                int other = from[(i + 1) % 3];
                is(kind + ": first " + due[i], due[i], t -> joined(t.own(odd).number(1), k), odd);
                is(kind + ": first " + due[i] + ", second another", due[i], t -> joined(t.own(odd).own(other), k), odd);
                is(kind + ": second " + due[i], due[i], t -> joined(t.number(1).own(odd), k), odd);
                is(kind + ": second " + due[i] + " behind 0", due[i], t -> joined(t.number(0).own(odd), k), odd);
                is(kind + ": second " + due[i] + " behind a reference", due[i], t -> joined(t.own(REF).own(odd), k), REF, odd);
            }
        }
    }

    private static Told joined(Told t, int kind) {
        t.x.step(kind, 0, 0);
        return t;
    }

    // "ADD, MUL, MAX and OR with a reference are NONE; references to one node are alike, a number and a
    // reference are not"; "OF of a number is NONE"
    private static void references() {
        for (int kind = 8; kind < 12; kind++) {
            int k = kind;
            is(kind + ": a reference first", NONE, t -> joined(t.self().number(0), k));
            is(kind + ": a reference second", NONE, t -> joined(t.number(0).self(), k));
            is(kind + ": two references", NONE, t -> joined(t.self().at(0), k));
            is(kind + ": a reference to another node first", NONE, t -> joined(t.at(0).number(1), k));
            is(kind + ": a reference to another node second", NONE, t -> joined(t.number(1).at(0), k));
            is(kind + ": two references to another node", NONE, t -> joined(t.at(0).own(REF), k), REF);
        }
        is("references to one node", 1, t -> t.at(0).own(REF).same(), REF);
        is("references to two nodes", 0, t -> t.self().own(REF).same(), REF);
        is("a number and a reference", 0, t -> t.number(0).self().same());
        is("a reference and a number", 0, t -> t.self().number(0).same());
        is("a reference and a number, 1", 0, t -> t.at(0).number(1).same());
        is("999 and a reference", 0, t -> t.number(999).at(0).same());
        is("0 and 0", 1, t -> t.number(0).number(0).same());
        is("999 and 999", 1, t -> t.number(999).number(999).same());
        is("999 and 998", 0, t -> t.number(999).number(998).same());
        is("OF 0", NONE, t -> t.number(0).of(ODD));
        is("OF 999", NONE, t -> t.number(999).of(ODD));
        is("OF itself", CONFLICT, t -> t.self().of(ODD), ODD);
        is("OF a child", NONE, t -> t.at(0).of(ODD), 11);
        is("OF an OF", NONE, t -> t.self().of(REF).of(EMPTY), REF, 13);
        is("OF in place of a value", NONE, t -> t.own(EMPTY).of(ODD), EMPTY);
        is("OF a cycle", CYCLE, t -> t.own(ROUND).of(ODD), ROUND);
        is("OF a conflict", CONFLICT, t -> t.own(ODD).of(REF), ODD);
        is("OF a cycle, over all eight steps", CYCLE,
                t -> t.own(ROUND).of(ODD).of(ODD).of(ODD).of(ODD).of(ODD).of(ODD).of(ODD), ROUND);
    }

    // "CHOOSE looks at what it chooses alone, and if the first one is in place of a value, at none";
    // "what the second one is, if the first one is not 0"; "a reference as the first one of CHOOSE is not 0"
    private static void chosen() {
        is("0 chooses", NONE, t -> t.number(0).own(ODD).own(EMPTY).choose(), EMPTY);
        is("1 chooses", CONFLICT, t -> t.number(1).own(ODD).own(EMPTY).choose(), ODD);
        is("999 chooses", CONFLICT, t -> t.number(999).own(ODD).own(EMPTY).choose(), ODD);
        is("1000 by 1000 chooses", NONE, t -> t.number(999).number(1).add().own(ODD).own(EMPTY).choose(), EMPTY);
        is("the root chooses", CONFLICT, t -> t.self().own(ODD).own(EMPTY).choose(), ODD);
        is("a child chooses", CONFLICT, t -> t.own(REF).own(ODD).own(EMPTY).choose(), REF, ODD);
        is("NONE chooses", NONE, t -> t.own(EMPTY).own(ODD).own(REF).choose(), EMPTY);
        is("CYCLE chooses", CYCLE, t -> t.own(ROUND).own(ODD).own(REF).choose(), ROUND);
        is("CONFLICT chooses", CONFLICT, t -> t.own(ODD).own(EMPTY).own(REF).choose(), ODD);
        is("a reference is chosen", REFERENCE + 1, t -> t.number(1).own(REF).own(ODD).choose(), REF);
        is("by 0 as well", REFERENCE + 1, t -> t.number(0).own(ODD).own(REF).choose(), REF);
        is("chosen is added to", NONE, t -> t.number(3).number(0).own(ODD).own(EMPTY).choose().add(), EMPTY);
    }

    // "each once, in the order in which they are looked at first"; "read: 0 for the first one"
    private static void reads() {
        is("nothing is looked at", 5, t -> t.number(5));
        is("one", NONE, t -> t.own(EMPTY), EMPTY);
        is("one, twice", 1, t -> t.own(REF).own(REF).same(), REF);
        is("a child's and its own", NONE, t -> t.number(2).at(0).of(EMPTY).own(EMPTY).choose().own(REF).same(), 13);
        is("itself", CYCLE, t -> t.own(TRIED), TRIED);
        is("itself, by a reference", CYCLE, t -> t.self().of(TRIED), TRIED);
        Told t = twoNodes();
        Due.noPlace("why: no equation", () -> t.x.why(1, TRIED, 0));
        Due.noPlace("why: a conflict", () -> t.x.why(0, ODD, 0));
        for (int bad : new int[] {LOW, -1, 2, 30, HIGH}) {
            Due.noPlace("value: node " + bad, () -> t.x.value(bad, 0));
            Due.noPlace("valueAnew: node " + bad, () -> t.x.valueAnew(bad, 0));
            Due.noPlace("isKept: node " + bad, () -> t.x.isKept(bad, 0) ? 1 : 0);
            Due.noPlace("why: node " + bad, () -> t.x.why(bad, ROUND, 0));
            Due.noPlace("rewrite: node " + bad, () -> t.x.rewrite(bad));
        }
        for (int bad : new int[] {LOW, -1, 5, 6, HIGH}) {
            Due.noPlace("value: attribute " + bad, () -> t.x.value(1, bad));
            Due.noPlace("valueAnew: attribute " + bad, () -> t.x.valueAnew(1, bad));
            Due.noPlace("isKept: attribute " + bad, () -> t.x.isKept(1, bad) ? 1 : 0);
            Due.noPlace("why: attribute " + bad, () -> t.x.why(1, bad, 0));
        }
        Due.is("value: the last node and attribute", t.x.value(1, 4), NONE);
        Due.is("found: that alone", t.x.found(), 1);
    }

    // A node or an attribute that does not exist has no reads, also where all nodes are gone through.
    private static void noReads() {
        Told t = new Told();
        t.production(0, 1);
        t.production(1);
        t.x.attribute(Told.GATHERED);
        t.x.attribute(Told.UP);
        t.own(1).number(1).gift(0, 0);
        t.x.read();
        Due.is("why: GATHERED, the root", t.x.why(0, 0, 0), 1);
        Due.is("why: GATHERED, the last node", t.x.why(1, 0, 0), 1);
        for (int bad : new int[] {-1, 2, 3}) {
            Due.noPlace("why: GATHERED, node " + bad, () -> t.x.why(bad, 0, 0));
            Due.noPlace("why: attribute " + bad, () -> t.x.why(0, bad, 0));
        }
        t.x.dropSteps();
        t.x.delete(t.x.insert(0, 'a') > 0 ? 0 : 1);
        Due.is("why: behind a change", t.x.why(1, 0, 0), 1);
    }

    // "DOWN: ... without one, what the attribute is of the parent (so it comes over remote places); NONE at the root"
    private static void downAtTheRoot() {
        Told t = new Told();
        t.production(0, 0, 4);
        t.production(0);
        int down = t.x.attribute(Told.DOWN);
        t.text("aa");
        readsAre("DOWN at the root", t.x, 0, down);
        readsAre("DOWN below it", t.x, 1, down, 0);
        Due.is("DOWN, never told", t.x.value(2, down), NONE);
        Due.is("DOWN, never told, found", t.x.found(), 3);
        t.number(5).down(0, down, 0);
        Due.is("DOWN at the root, though told for the child", t.x.value(0, down), NONE);
        Due.is("DOWN of the child", t.x.value(1, down), 5);
        readsAre("DOWN, told", t.x, 1, down);
    }

    // "if there are two, it is CONFLICT; if there is none, and the production forwards to another one, the
    // equation of that ... and so on, behind at most 3 forwards"
    private static void threeForwards() {
        for (int last = 0; last < 6; last++) {
            Told t = new Told();
            for (int i = 0; i < 6; i++) {
                t.production(0, 1, 4);
            }
            t.production(1);
            int up = t.x.attribute(Told.UP);
            int down = t.x.attribute(Told.DOWN);
            int ring = t.x.attribute(Told.RING);
            int kind = t.x.attribute(Told.UP);
            for (int i = 0; i < 5; i++) {
                t.x.forward(i, i + 1, 0, 0, 0);
            }
            t.number(40 + last).up(last, up);
            t.number(50 + last).down(last, down, 0);
            t.number(60 + last).up(last, ring);
            t.kind().number(7).add().up(last, kind);
            t.text("a");
            boolean there = last <= 3;
            Due.is("forward: UP, behind " + last, t.x.value(0, up), there ? 40 + last : NONE);
            Due.is("forward: DOWN, behind " + last, t.x.value(1, down), there ? 50 + last : NONE);
            Due.is("forward: RING, behind " + last, t.x.value(0, ring), there ? 60 + last : NONE);
            Due.is("forward: KIND, behind " + last, t.x.value(0, kind), there ? 7 : NONE);
            t.number(1).up(last, up);
            Due.is("forward: two, behind " + last, t.x.value(0, up), there ? CONFLICT : NONE);
            t.number(99);
            t.x.equation(0, up, -1, 1);
            Due.is("forward: its own goes first, " + last, t.x.value(0, up), last == 0 ? CONFLICT : 99);
            t.x.toggle(1);
            t.x.forward(0, -1, 0, 0, 0);
            Due.is("forward: no more, " + last, t.x.value(0, down), NONE);
            Due.is("forward: no more, DOWN, " + last, t.x.value(1, down), last == 0 ? 50 : NONE);
        }
    }

    // "looked at at the node, where the children are those that stand for them, letters are NONE, and KIND is
    // that of the node still"
    private static void behindAForward() {
        Told t = new Told();
        t.production(0, 1, 4, 1);
        t.production(0, 1, 1, 1);
        t.production(0, 5, 1, 5);
        t.production(1, 6);
        AttribArbor x = t.x;
        for (int i = 0; i < 6; i++) {
            x.attribute(i == 5 ? Told.DOWN : Told.UP);
        }
        x.forward(0, 1, 1, 0, 1);
        x.forward(1, 2, 2, 0, 0);
        t.at(0).up(1, 0);
        t.at(1).up(1, 1);
        t.at(2).up(1, 2);
        t.at(0).up(2, 3);
        t.put(0);
        x.equation(2, 4, -1, 1);
        t.text("cac");
        Due.is("behind one: child 0", x.value(0, 0), REFERENCE + 2);
        Due.is("behind one: child 1", x.value(0, 1), REFERENCE + 1);
        Due.is("behind one: child 2", x.value(0, 2), REFERENCE + 2);
        Due.is("behind two: child 0", x.value(0, 3), REFERENCE + 2);
        Due.is("behind two: PUT", x.value(0, 4), NONE);
        x.toggle(1);
        t.letter(1);
        x.equation(2, 4, -1, 2);
        Due.is("behind two: LETTER", x.value(0, 4), NONE);
        x.toggle(2);
        t.at(1);
        x.equation(2, 4, -1, 3);
        Due.is("behind two: no such child there", x.value(0, 4), NONE);
        x.toggle(3);
        t.kind().number(10).add().up(2, 4);
        Due.is("behind two: KIND", x.value(0, 4), 10);
        // The child 1 stands for the children 0 and 2 of the next one, and there for the child 0 of the last.
        t.number(3);
        x.equation(1, 5, 2, 1);
        x.toggle(1);
        Due.is("DOWN: for the first child there alone", x.value(2, 5), NONE);
        t.number(4).down(2, 5, 0);
        Due.is("DOWN: then behind the next forward", x.value(2, 5), 4);
        t.number(5).down(1, 5, 0);
        Due.is("DOWN: the first child there goes ahead", x.value(2, 5), 5);
        Due.is("DOWN: the other child", x.value(1, 5), NONE);
        t.number(6).down(1, 5, 1);
        Due.is("DOWN: the other child, told", x.value(1, 5), 6);
    }

    // "the child that stands for the child 0 of the other one", "likewise for its child 1", "for its child 2": from
    // each production, each child for each
    private static void standingChildren() {
        for (int source = 0; source < 10; source++) {
            Told t = new Told();
            int other = source == 9 ? 0 : 9;
            for (int p = 0; p < 10; p++) {
                if (p == source || p == other && source < 9) {
                    t.production(0, 1, 1, 1);
                } else if (p == other) {
                    t.production(0, 1, 9, 1);
                } else {
                    t.production(1, 4);
                }
            }
            standIns(t, source, other);
        }
    }

    private static void standIns(Told t, int source, int other) {
        AttribArbor x = t.x;
        int children = source == 9 ? 2 : 3;
        for (int a = 0; a < 3; a++) {
            x.attribute(Told.UP);
            t.at(a).up(other, a);
        }
        int down = x.attribute(Told.DOWN);
        for (int child = 0; child < children; child++) {
            t.number(child + 1).down(other, down, child);
        }
        t.text("aaa");
        Due.is("standing: the root is of " + source, x.node(0), 10 * source + 3);
        for (int way = 0; way < (children == 3 ? 27 : 9); way++) {
            int[] stands = {way % 3, way / 3 % 3, way / 9};
            x.forward(source, other, stands[0], stands[1], stands[2]);
            for (int a = 0; a < 3; a++) {
                String what = "standing: from " + source + ", way " + way + ", child " + a;
                Due.is(what, x.value(0, a), a < children ? REFERENCE + 1 + stands[a] : NONE);
                int due = stands[0] == a ? 1 : stands[1] == a ? 2 : children == 3 && stands[2] == a ? 3 : NONE;
                Due.is(what + ", DOWN", x.value(a + 1, down), due);
            }
        }
    }

    // "all contributions that count, for the attribute, of all nodes of the tree": from the last of 30, to it
    private static void gatheredFromTheLast() {
        Told t = new Told();
        t.production(0, 1, 1, 1);
        t.production(1, 2, 2, 2);
        t.production(2, 3, 3);
        t.production(3);
        t.production(2, 4, 3);
        AttribArbor x = t.x;
        int gathered = x.attribute(Told.GATHERED);
        int root = x.attribute(Told.DOWN);
        int last = x.attribute(Told.UP);
        t.self().down(0, root, 0);
        t.self().down(0, root, 1);
        t.self().down(0, root, 2);
        t.text("a");
        Due.is("GATHERED: 30 nodes", x.node(29), 29030);
        t.own(root).number(7).gift(4, gathered);
        Due.is("GATHERED: from the node 28 alone", x.value(0, gathered), 7);
        t.at(0).number(40).gift(4, gathered);
        Due.is("GATHERED: to the node 29", x.value(29, gathered), 40);
        t.own(root).number(9).gift(3, gathered);
        Due.is("GATHERED: from 17 nodes, the node 29 too", x.value(0, gathered), 160);
        x.toggle(0);
        int like3 = t.production(3);
        t.number(1);
        x.equation(3, last, -1, 1);
        x.rule(3, last, like3);
        Due.is("GATHERED: the node 29 is rewritten", x.rewrite(29), like3);
        t.self().kind();
        x.equation(like3, gathered, -2, 1);
        Due.is("GATHERED: from the node 29 alone", x.value(29, gathered), like3);
        Due.is("GATHERED: to no other one", x.value(28, gathered), 0);
    }

    // "the second one is added, by 1000 (CYCLE or CONFLICT are the attribute then, and no more is looked at; NONE
    // and references add nothing); all others are left out"
    private static void gathered() {
        gatheredIs("nothing", 0);
        gatheredIs("0", 0, t -> t.self().number(0));
        gatheredIs("999", 999, t -> t.self().number(999));
        gatheredIs("999 and 1", 0, t -> t.self().number(999), t -> t.self().number(1));
        gatheredIs("500 and 499", 999, t -> t.self().number(500), t -> t.self().number(499));
        gatheredIs("three of 999", 997, t -> t.self().number(999), t -> t.self().number(999), t -> t.self().number(999));
        gatheredIs("a reference and 3", 3, t -> t.self().self(), t -> t.self().number(3));
        gatheredIs("NONE and 4", 4, t -> t.self().letter(2), t -> t.self().number(4));
        gatheredIs("to NONE, and 5", 5, t -> t.at(2).number(9), t -> t.self().number(5));
        gatheredIs("to a number, and 6", 6, t -> t.number(0).number(9), t -> t.self().number(6));
        gatheredIs("to a child, and 7", 7, t -> t.at(0).number(9), t -> t.self().number(7));
        gatheredIs("CONFLICT", CONFLICT, t -> t.self().own(1), t -> t.self().own(2));
        gatheredIs("CYCLE", CYCLE, t -> t.self().number(2), t -> t.self().own(2), t -> t.self().own(1));
        gatheredIs("to CONFLICT", CONFLICT, t -> t.self().number(2), t -> t.own(1).number(1));
        gatheredIs("to CYCLE", CYCLE, t -> t.own(2).number(1), t -> t.own(1).number(1));
        gatheredIs("CONFLICT for a child", 8, t -> t.at(0).own(1), t -> t.self().number(8));
        gatheredIs("itself", CYCLE, t -> t.self().own(0));
        gatheredIs("of a child", 0, t -> t.self().child(0, 0));
    }

    private static void gatheredIs(String what, int due, Teller... tellers) {
        Told t = new Told();
        t.production(0, 1);
        t.production(1);
        t.x.attribute(Told.GATHERED);
        t.x.attribute(Told.UP);
        t.x.attribute(Told.UP);
        t.number(1).up(0, 1);
        t.number(1).up(0, 1);
        t.own(2).up(0, 2);
        for (Teller teller : tellers) {
            teller.tell(t).gift(0, 0);
        }
        t.x.read();
        Due.is("GATHERED: " + what + ", anew", t.x.valueAnew(0, 0), due);
        Due.is("GATHERED: " + what, t.x.value(0, 0), due);
    }

    // "no more is looked at": the reads of a GATHERED one end there; "by rising nodes, ... by rising numbers"
    private static void gatheredReads() {
        Told t = new Told();
        t.production(0, 1, 1);
        t.production(1);
        for (int i = 0; i < 5; i++) {
            t.x.attribute(i == 0 ? Told.GATHERED : Told.UP);
        }
        t.own(1).own(2).gift(1, 0);
        t.own(3).own(4).gift(0, 0);
        t.own(2).own(4).gift(1, 0);
        t.self().up(1, 1);
        t.x.read();
        readsAre("GATHERED to the root", t.x, 0, 0, 3, 11, 12, 21, 22);
        readsAre("GATHERED to the first child", t.x, 1, 0, 3, 11, 12, 21, 22);
        t.self().up(0, 3);
        readsAre("GATHERED to the root, which gives", t.x, 0, 0, 3, 4, 11, 12, 21, 22);
        t.own(4).up(0, 4);
        readsAre("GATHERED to the root, a cycle", t.x, 0, 0, 3, 4);
        readsAre("GATHERED to the last one, no cycle", t.x, 2, 0, 3, 11, 12, 21, 22);
        t.number(1).up(1, 2);
        t.number(1).up(1, 2);
        readsAre("GATHERED to the first child, a conflict", t.x, 1, 0, 3, 11, 12);
        readsAre("GATHERED to the last one, a conflict to another", t.x, 2, 0, 3, 11, 12);
    }

    // Equations of the first and the last production, for the first and the last attribute, at all targets:
    // each is told apart from the others.
    private static void allTargets() {
        for (int shift = 0; shift < 8; shift++) {
            Told t = new Told();
            int at = shift < 4 ? 0 : 9;
            for (int p = 0; p < 10; p++) {
                if (p == at) {
                    t.production(0, 1, 1, 1);
                } else {
                    t.production(1, 4);
                }
            }
            for (int a = 0; a < 6; a++) {
                int kind = (a + shift) % 4;
                t.x.attribute(kind);
                for (int child = 0; child < 3 && kind == Told.DOWN; child++) {
                    t.number(10 * a + child).down(at, a, child);
                }
                if (kind == Told.GATHERED) {
                    t.self().number(10 * a + 4).gift(at, a);
                } else if (kind != Told.DOWN) {
                    t.number(10 * a + 5).up(at, a);
                }
            }
            t.text("aaa");
            for (int a = 0; a < 6; a++) {
                int kind = (a + shift) % 4;
                String what = "equations of " + at + ", attribute " + a + " of kind " + kind + ": ";
                int due = kind == Told.DOWN ? NONE : kind == Told.GATHERED ? 10 * a + 4 : 10 * a + 5;
                Due.is(what + "the root", t.x.value(0, a), due);
                for (int child = 0; child < 3; child++) {
                    int below = kind == Told.DOWN ? 10 * a + child : kind == Told.GATHERED ? 0 : NONE;
                    Due.is(what + "child " + child, t.x.value(child + 1, a), below);
                }
            }
        }
    }

    // "If the 30th round changes one, all of them are CYCLE."
    private static void thirtyRounds() {
        for (int last = 27; last < 33; last++) {
            Told t = new Told();
            t.production(0, 1);
            t.production(1);
            int ring = t.x.attribute(Told.RING);
            int still = t.x.attribute(Told.RING);
            int next = t.x.attribute(Told.UP);
            int looking = t.x.attribute(Told.UP);
            // It grows by 1 in each round, up to a number: the round behind that changes none.
            t.own(ring).number(1).add().up(1, next);
            t.own(ring).number(last).same().own(ring).own(next).choose().up(1, ring);
            t.number(5).up(0, still);
            t.own(still).number(1).add().up(0, looking);
            t.x.read();
            boolean ends = last <= 29;
            String what = last + " rounds that change one: ";
            Due.is(what + "anew", t.x.valueAnew(1, next), ends ? last + 1 : CYCLE);
            Due.is(what + "that one", t.x.value(1, ring), ends ? last : CYCLE);
            Due.is(what + "another one that stands still", t.x.value(0, still), ends ? 5 : CYCLE);
            Due.is(what + "one without an equation", t.x.value(1, still), ends ? NONE : CYCLE);
            Due.is(what + "an UP one that looks at it", t.x.value(0, looking), ends ? 6 : CYCLE);
            Due.is(what + "anew, the ring", t.x.valueAnew(0, still), ends ? 5 : CYCLE);
            Due.is(what + "anew, the UP one", t.x.valueAnew(1, next), ends ? last + 1 : CYCLE);
            if (ends) {
                readsAre(what + "why", t.x, 1, ring, 10);
            } else {
                readsAre(what + "why", t.x, 1, next, 10);
            }
            Due.is(what + "found", t.x.found(), 1);
        }
    }

    // "At first each is 0"; "a reference counts as NONE"; "until a round changes none"
    private static void firstRounds() {
        Told t = new Told();
        t.production(0, 4);
        for (int i = 0; i < 5; i++) {
            t.x.attribute(i < 4 ? Told.RING : Told.UP);
        }
        t.own(0).up(0, 0);
        t.own(0).number(1).add().up(0, 1);
        t.self().up(0, 2);
        t.own(2).number(7).number(8).choose().up(0, 3);
        t.own(2).number(7).number(8).choose().up(0, 4);
        t.x.read();
        Due.is("RING: on itself alone, as at first", t.x.value(0, 0), 0);
        Due.is("RING: on another one", t.x.value(0, 1), 1);
        Due.is("RING: a reference", t.x.value(0, 2), NONE);
        Due.is("RING: by a reference", t.x.value(0, 3), NONE);
        Due.is("RING: an UP one by a reference", t.x.value(0, 4), NONE);
        t = new Told();
        t.production(0, 4);
        t.x.attribute(Told.RING);
        t.number(1).up(0, 0);
        t.number(2).up(0, 0);
        t.x.read();
        Due.is("RING: two equations", t.x.value(0, 0), CONFLICT);
        t = new Told();
        t.production(0, 1);
        t.production(1);
        t.x.attribute(Told.RING);
        t.at(0).up(0, 0);
        t.self().up(1, 0);
        t.x.read();
        Due.is("RING: a reference to a child", t.x.value(0, 0), NONE);
        Due.is("RING: a reference of the child", t.x.value(1, 0), NONE);
    }

    // "At first each is 0", also when they are found again behind a change
    private static void firstRoundsAgain() {
        Told t = new Told();
        t.production(0, 4, 1);
        t.production(1, 5);
        AttribArbor x = t.x;
        int ring = x.attribute(Told.RING);
        int least = x.attribute(Told.UP);
        t.own(ring).own(least).max().up(0, ring);
        t.number(9);
        x.equation(0, least, -1, 1);
        t.number(3);
        x.equation(0, least, -1, 2);
        x.toggle(2);
        t.text("ab");
        Due.is("RING: at first", x.value(0, ring), 9);
        x.toggle(1);
        x.toggle(2);
        Due.is("RING: at first again", x.value(0, ring), 3);
        Due.is("RING: at first again, anew", x.valueAnew(0, ring), 3);
        x.toggle(1);
        Due.is("RING: a conflict", x.value(0, ring), CONFLICT);
        x.toggle(2);
        Due.is("RING: at first once more", x.value(0, ring), 9);
    }

    // "of each those of its production ... (forwards do not matter)": its own children and letters, whatever was
    // asked ahead of that
    private static void gatheredWithForwards() {
        Told t = new Told();
        t.production(0, 4, 1, 1);
        t.production(0, 1, 1);
        t.production(1, 5);
        AttribArbor x = t.x;
        int up = x.attribute(Told.UP);
        int gathered = x.attribute(Told.GATHERED);
        x.forward(0, 1, 1, 0, 0);
        t.at(0).up(1, up);
        t.self().letter(0).gift(0, gathered);
        t.at(0).put(0).number(5).add().gift(0, gathered);
        t.self().number(100).gift(1, gathered);
        t.text("abb");
        Due.is("GATHERED: ahead of a forward", x.value(0, up), REFERENCE + 2);
        Due.is("GATHERED: its own letter", x.value(0, gathered), 1);
        Due.is("GATHERED: its own child", x.value(1, gathered), 5);
        Due.is("GATHERED: not that behind the forward", x.value(2, gathered), 0);
    }

    // "without a RING one on the way": over a RING one it is no cycle; what the rounds look at is not kept
    private static void overARing() {
        Told t = new Told();
        t.production(0, 4);
        int up = t.x.attribute(Told.UP);
        int ring = t.x.attribute(Told.RING);
        int other = t.x.attribute(Told.UP);
        t.own(ring).number(4).max().up(0, up);
        t.own(up).up(0, ring);
        t.own(other).up(0, other);
        t.x.read();
        Due.is("over a RING: itself", t.x.value(0, ring), 4);
        Due.is("over a RING: nothing is counted", t.x.found(), 0);
        Due.is("over a RING: nothing is kept", t.x.isKept(0, up), false);
        Due.is("over a RING: the UP one", t.x.value(0, up), 4);
        Due.is("over a RING: it is kept", t.x.isKept(0, up), true);
        Due.is("over a RING: the ring is not", t.x.isKept(0, ring), false);
        Due.is("not over a RING", t.x.value(0, other), CYCLE);
        Due.is("over a RING: two are counted", t.x.found(), 2);
    }

    /** 0 -> 1 2; 1 -> "a" 1; 1 -> nothing; 2 -> "b" 2; 2 -> nothing. The nodes of "abb": 0, 1 2, 3 4 5. */
    private static Told twoBranches() {
        Told t = new Told();
        t.production(0, 1, 2);
        t.production(1, 4, 1);
        t.production(1);
        t.production(2, 5, 2);
        t.production(2);
        t.production(1, 6, 1);
        return t;
    }

    // "for an UP attribute the node; for a DOWN one the node and its parent ...; and those on which what it
    // looked at hangs. It is dropped when one of these nodes ... is a node no more, or gets another child"
    private static void droppedByNodes() {
        Told t = twoBranches();
        AttribArbor x = t.x;
        int up = x.attribute(Told.UP);
        int down = x.attribute(Told.DOWN);
        int below = x.attribute(Told.UP);
        t.number(1).up(0, up);
        t.number(1).down(0, down, 0);
        t.number(1).down(0, down, 1);
        t.child(up, 0).up(1, below);
        t.child(below, 0).up(0, below);
        t.text("abb");
        Due.is("branches: nodes", x.read(), 606);
        for (int n = 0; n < 6; n++) {
            for (int a = 0; a < 3; a++) {
                x.value(n, a);
            }
        }
        int made = x.found();
        Due.is("branches: all are kept", made, 18);
        // Another "b" at the end: the node 5 is none any more, the node 4 gets another child.
        Due.is("branches: one more below", x.insert(3, 'b'), 705);
        keptAre("another child of 4", x, new int[][] {{0, 1, 2}, {0, 1, 2}, {0, 1, 2}, {0, 1, 2}, {}, {}, {}}, 3);
        Due.is("branches: nothing was made", x.found(), made);
        // One "a" less: the node 2 is none any more, as the node 1 is one without a child now.
        Due.is("branches: none below", x.delete(0), 605);
        keptAre("another child of 0", x, new int[][] {{}, {}, {0, 2}, {}, {}, {}}, 3);
    }

    private static void keptAre(String what, AttribArbor x, int[][] due, int attributes) {
        for (int n = 0; n < due.length; n++) {
            for (int a = 0; a < attributes; a++) {
                boolean kept = false;
                for (int k : due[n]) {
                    kept |= k == a;
                }
                Due.is("kept behind " + what + ": " + n + ", " + a, x.isKept(n, a), kept);
            }
        }
    }

    private static final int GATHERING = 0;
    private static final int LOOKING = 2;
    private static final int CYCLIC = 3;
    private static final int PLAIN = 4;
    private static final int OVER = 5;

    /** Six nodes of which some attributes are kept; on the left those that hang on all nodes. */
    private static Told sixNodes() {
        Told t = twoBranches();
        t.production(2, 6, 2);
        AttribArbor x = t.x;
        x.attribute(Told.GATHERED);
        int ring = x.attribute(Told.RING);
        x.attribute(Told.UP);
        x.attribute(Told.UP);
        x.attribute(Told.UP);
        x.attribute(Told.UP);
        t.own(ring).up(2, LOOKING);
        t.own(CYCLIC).up(2, CYCLIC);
        t.number(1).up(2, PLAIN);
        t.number(1).up(3, PLAIN);
        t.own(LOOKING).up(2, OVER);
        t.own(GATHERING).up(1, OVER);
        x.rule(3, PLAIN, 6);
        t.text("abb");
        for (int[] slot : ON_ALL) {
            x.value(slot[0], slot[1]);
        }
        for (int n = 0; n < 6; n++) {
            x.value(n, PLAIN);
        }
        return t;
    }

    private static final int[][] ON_ALL = {{0, GATHERING}, {1, GATHERING}, {1, OVER}, {2, LOOKING}, {2, CYCLIC}, {2, OVER}};

    private static void onAllAreKept(String what, AttribArbor x, boolean due) {
        for (int[] slot : ON_ALL) {
            Due.is(what + ": kept " + slot[0] + ", " + slot[1], x.isKept(slot[0], slot[1]), due);
        }
    }

    private static void plainAreKept(String what, AttribArbor x, boolean... due) {
        for (int n = 0; n < due.length; n++) {
            Due.is(what + ": kept " + n + ", " + PLAIN, x.isKept(n, PLAIN), due[n]);
        }
    }

    // "for a GATHERED one, for what looked at a RING one, and for what is CYCLE all nodes"; "It is dropped when one
    // of these nodes is rewritten, is a node no more, or gets another child; what hangs on all nodes, when any
    // node does, or there is a new one; what is kept for a node, when that is none any more."
    private static void droppedByAnyNode() {
        AttribArbor x = sixNodes().x;
        Due.is("six: found", x.found(), 12);
        onAllAreKept("six", x, true);
        x.read();
        x.insert(0, 'f');
        x.delete(0);
        x.node(4);
        x.cost();
        x.value(3, PLAIN);
        x.valueAnew(2, OVER);
        x.rewrite(0);
        onAllAreKept("nothing has changed", x, true);
        Due.is("nothing has changed: found", x.found(), 12);
        Due.is("rewritten", x.rewrite(4), 6);
        onAllAreKept("rewritten", x, false);
        plainAreKept("rewritten", x, true, true, true, true, false, true);
        Due.is("rewritten: not found again", x.found(), 12);
        x.value(2, OVER);
        Due.is("rewritten: two are found again", x.found(), 14);
        Due.is("not rewritten, no rule", x.rewrite(4), 6);
        Due.is("not rewritten: it stays", x.isKept(2, OVER), true);

        x = sixNodes().x;
        Due.is("a new node at the end", x.insert(3, 'b'), 705);
        onAllAreKept("a new node", x, false);
        plainAreKept("a new node", x, true, true, true, true, false, false, false);

        x = sixNodes().x;
        Due.is("a node less at the end", x.delete(2), 504);
        onAllAreKept("a node less", x, false);
        plainAreKept("a node less", x, true, true, true, false, false);
    }

    // "What is kept for a node, when that is none any more": also where its number is another one's then
    private static void droppedWithTheTree() {
        Told t = new Told();
        t.production(0, 1, 1, 1);
        t.production(1, 2, 2, 2);
        t.production(2, 3, 3);
        t.production(3);
        t.production(2, 4, 3);
        AttribArbor x = t.x;
        int up = x.attribute(Told.UP);
        t.number(3).up(3, up);
        t.text("a");
        x.value(29, up);
        x.value(4, up);
        Due.is("the last node: kept", x.isKept(29, up), true);
        Due.is("one less: kept", x.insert(0, 'a'), 2927);
        Due.is("one less: the last node is another one's number", x.isKept(28, up), true);
        Due.is("one less: the same number", x.isKept(4, up), true);
        Due.is("no letter: no tree", x.delete(0) + x.delete(0), 3027);
        Due.is("again: all are new", x.insert(0, 'a'), 3000);
        for (int n = 0; n < 30; n++) {
            Due.is("again: kept " + n, x.isKept(n, up), false);
        }
        Due.is("again: found", x.found(), 2);
        x.value(29, up);
        Due.is("again: found again", x.found(), 3);
    }

    // "All is dropped when a production, an attribute, an equation, an aspect, a forward or a rule is told, also
    // as it was." A draft is none of these, and a refused call tells nothing.
    private static void droppedByTelling() {
        String[] calls = {"production", "attribute", "equation", "toggle", "forward", "forward as it was", "rule",
            "rule as it was"};
        for (int i = 0; i < calls.length; i++) {
            Told t = new Told();
            t.production(0, 4);
            t.production(0, 5);
            AttribArbor x = t.x;
            x.attribute(Told.UP);
            x.forward(0, 1, 0, 0, 0);
            x.rule(0, 0, 1);
            t.text("a");
            x.value(0, 0);
            x.step(0, 1, 0);
            x.dropSteps();
            x.step(0, 1, 0);
            Due.notNow("telling: one for ADD", () -> x.step(8, 0, 0));
            Due.noPlace("telling: no such production", () -> x.forward(2, -1, 0, 0, 0));
            Due.badArgument("telling: the same", () -> x.rule(1, 0, 1));
            Due.noPlace("telling: no such aspect", () -> x.toggle(4) ? 1 : 0);
            Due.badArgument("telling: no such kind", () -> x.attribute(4));
            Due.badArgument("telling: no such symbol", () -> x.production(0, 10, -1, -1));
            Due.badArgument("telling: no such target", () -> x.equation(0, 0, -2, 0));
            Due.is("telling: kept ahead of " + calls[i], x.isKept(0, 0), true);
            switch (i) {
                case 0:
                    x.production(3, -1, -1, -1);
                    break;
                case 1:
                    x.attribute(Told.RING);
                    break;
                case 2:
                    x.equation(1, 0, -1, 3);
                    break;
                case 3:
                    x.toggle(2);
                    break;
                case 4:
                    x.forward(1, 0, 0, 0, 0);
                    break;
                case 5:
                    x.forward(0, 1, 0, 0, 0);
                    break;
                case 6:
                    x.rule(1, 0, 0);
                    break;
                default:
                    x.rule(0, 0, 1);
                    break;
            }
            Due.is("telling: dropped by " + calls[i], x.isKept(0, 0), false);
            Due.is("telling: not counted by " + calls[i], x.found(), 1);
            x.value(0, 0);
            Due.is("telling: found again behind " + calls[i], x.found(), 2);
        }
    }

    // "A finding that is kept is counted, each one that is made on the way as well, CYCLE ones too; so is one
    // that has to be made again."
    private static void counted() {
        Told t = new Told();
        t.production(0, 4);
        for (int i = 0; i < 6; i++) {
            t.x.attribute(Told.UP);
        }
        for (int i = 0; i < 4; i++) {
            t.own(i + 1).up(0, i);
        }
        t.own(2).up(0, 4);
        t.x.read();
        Due.is("counted: none", t.x.found(), 0);
        Due.is("counted: anew is not", t.x.valueAnew(0, 0), CYCLE);
        Due.is("counted: why is not", t.x.why(0, 0, 0), 1);
        Due.is("counted: none still", t.x.found(), 0);
        Due.is("counted: two that lead to three in a ring", t.x.value(0, 0), CYCLE);
        Due.is("counted: five", t.x.found(), 5);
        for (int a = 0; a < 5; a++) {
            Due.is("counted: each of them", t.x.value(0, a), CYCLE);
            Due.is("counted: kept, " + a, t.x.isKept(0, a), true);
        }
        Due.is("counted: five still", t.x.found(), 5);
        Due.is("counted: the last one", t.x.value(0, 5), NONE);
        Due.is("counted: six", t.x.found(), 6);
        t.x.toggle(3);
        Due.is("counted: six behind a drop", t.x.found(), 6);
        Due.is("counted: begun in the ring", t.x.value(0, 3), CYCLE);
        Due.is("counted: three again", t.x.found(), 9);
    }

    // "what is kept is not looked at" within rounds; rings are found anew behind a change
    private static void ringsBehindAChange() {
        Told t = new Told();
        t.production(0, 4, 0);
        t.production(0, 5, 0);
        t.production(0);
        AttribArbor x = t.x;
        int ring = x.attribute(Told.RING);
        int plain = x.attribute(Told.UP);
        t.child(ring, 0).own(plain).add().up(0, ring);
        t.number(7).up(1, ring);
        t.number(1).up(0, plain);
        t.number(0).up(2, ring);
        x.rule(0, plain, 1);
        t.text("aaa");
        Due.is("rings: three", x.value(0, ring), 3);
        x.rewrite(1);
        Due.is("rings: behind a rewriting", x.value(0, ring), 8);
        x.insert(0, 'a');
        Due.is("rings: behind one more letter", x.value(0, ring), 8);
        x.delete(3);
        Due.is("rings: behind one less", x.value(0, ring), 8);
        x.insert(0, 'b');
        Due.is("rings: a new tree", x.value(0, ring), 7);
        x.delete(0);
        Due.is("rings: and again", x.value(0, ring), 3);
        x.toggle(0);
        Due.is("rings: nothing counts", x.value(0, ring), NONE);
        x.toggle(0);
        Due.is("rings: all counts", x.value(0, ring), 3);
    }

    // "An object is used for at most 512 calls": the last of them still tells what is due
    private static void lastCall() {
        Told t = new Told();
        t.production(0, 4, 0);
        t.production(0);
        int up = t.x.attribute(Told.UP);
        t.child(up, 0).number(1).add().up(0, up);
        t.number(0).up(1, up);
        for (int i = 10; i < 507; i++) {
            if (i % 2 == 0) {
                Due.is("call " + i, t.x.insert(0, 'a'), 200);
            } else {
                Due.is("call " + i, t.x.delete(0), 100);
            }
        }
        Due.is("call 507", t.x.value(0, up), 1);
        Due.is("call 508", t.x.found(), 2);
        Due.is("call 509", t.x.isKept(0, up), true);
        Due.is("call 510", t.x.read(), 202);
        Due.noPlace("call 511", () -> t.x.why(0, up, 1));
        Due.is("call 512", t.x.why(0, up, 0), 10);
    }

    public static void main(String[] args) {
        byThousand();
        numbers();
        letters();
        notThere();
        inPlaceOfAValue();
        references();
        chosen();
        reads();
        noReads();
        downAtTheRoot();
        threeForwards();
        behindAForward();
        gathered();
        gatheredReads();
        gatheredFromTheLast();
        standingChildren();
        allTargets();
        thirtyRounds();
        firstRounds();
        firstRoundsAgain();
        gatheredWithForwards();
        overARing();
        droppedByNodes();
        droppedByAnyNode();
        droppedWithTheTree();
        droppedByTelling();
        counted();
        ringsBehindAChange();
        lastCall();
        Due.end("EdgeAskTest");
    }
}
