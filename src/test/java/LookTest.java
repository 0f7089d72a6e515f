/** Promises 10 and 11: conflicts() and ringIn(). */
public final class LookTest {
    // ---- promise 10
    private static void conflicts() {
        Told t = new Told();
        AttribArbor x = t.x;
        t.production(0, 1, 1);
        t.production(1, 4);
        int up = x.attribute(Told.UP);
        int down = x.attribute(Told.DOWN);
        int gathered = x.attribute(Told.GATHERED);
        int ring = x.attribute(Told.RING);
        t.number(1).up(0, up);
        t.number(1).up(1, up);
        t.number(1).up(0, ring);
        t.number(1).down(0, down, 0);
        t.number(1).down(0, down, 1);
        t.self().number(1).gift(0, gathered);
        t.self().number(1).gift(0, gathered);
        Due.is("conflicts: other production, attribute, target; contributions", x.conflicts(), 0);
        t.number(2);
        x.equation(0, up, -1, 1);
        Due.is("conflicts: two", x.conflicts(), 2);
        t.number(1).up(0, up);
        Due.is("conflicts: three for the same", x.conflicts(), 3);
        t.number(2);
        x.equation(0, down, 1, 2);
        Due.is("conflicts: DOWN as well", x.conflicts(), 5);
        t.number(2).up(0, ring);
        Due.is("conflicts: RING as well", x.conflicts(), 7);
        x.toggle(1);
        Due.is("conflicts: without aspect 1", x.conflicts(), 6);
        x.toggle(2);
        Due.is("conflicts: without aspect 2", x.conflicts(), 4);
        x.toggle(0);
        Due.is("conflicts: without aspect 0", x.conflicts(), 0);
        x.toggle(1);
        Due.is("conflicts: only one counts", x.conflicts(), 0);
    }

    private static void noRing() {
        Told t = new Told();
        AttribArbor x = t.x;
        t.production(0, 1);
        t.production(1, 4);
        int up = x.attribute(Told.UP);
        int down = x.attribute(Told.DOWN);
        Due.is("ringIn: no equation", x.ringIn(), -1);
        t.child(up, 0).up(0, up);
        t.own(down).up(1, up);
        Due.is("ringIn: up from down", x.ringIn(), -1);
        t.child(up, 0).down(0, down, 0);
        Due.is("ringIn: down from up of the same child", x.ringIn(), 0);
    }

    private static void itself() {
        Told t = new Told();
        AttribArbor x = t.x;
        t.production(0, 4);
        t.production(0, 5);
        int up = x.attribute(Told.UP);
        int ring = x.attribute(Told.RING);
        int gathered = x.attribute(Told.GATHERED);
        int other = x.attribute(Told.UP);
        t.own(ring).up(1, ring);
        t.own(gathered).own(gathered).gift(1, gathered);
        Due.is("ringIn: RING and GATHERED are not looked at", x.ringIn(), -1);
        t.own(gathered).up(1, up);
        t.self().of(up).up(1, other);
        Due.is("ringIn: nor references", x.ringIn(), -1);
        t.number(0).number(1).own(up).choose();
        x.equation(0, up, -1, 3);
        Due.is("ringIn: what is not chosen as well", x.ringIn(), 0);
        x.toggle(3);
        Due.is("ringIn: only what counts", x.ringIn(), -1);
        t.own(up).up(0, other);
        t.own(other).up(0, up);
        Due.is("ringIn: over another one", x.ringIn(), 0);
    }

    private static void conflictTellsBoth() {
        Told t = new Told();
        AttribArbor x = t.x;
        t.production(0, 4);
        int up = x.attribute(Told.UP);
        int other = x.attribute(Told.UP);
        t.own(other).up(0, up);
        t.number(1).up(0, other);
        Due.is("ringIn: none yet", x.ringIn(), -1);
        t.own(up);
        x.equation(0, other, -1, 1);
        Due.is("ringIn: the second of two", x.ringIn(), 0);
        x.toggle(1);
        Due.is("ringIn: the second is off", x.ringIn(), -1);
    }

    private static void copiedDown() {
        Told t = new Told();
        AttribArbor x = t.x;
        t.production(2, 3);
        t.production(0, 1);
        t.production(1, 4);
        int up = x.attribute(Told.UP);
        int down = x.attribute(Told.DOWN);
        // 1 -> "a": its up hangs on its down; 0 -> 1: the child's down is that of the node.
        t.own(down).up(2, up);
        t.child(up, 0).up(1, up);
        Due.is("ringIn: a copy alone is no ring", x.ringIn(), -1);
        int root = t.production(0, 0);
        t.child(up, 0).down(root, down, 0);
        Due.is("ringIn: over a copy, two levels down", x.ringIn(), root);
        t.number(3).down(1, down, 0);
        Due.is("ringIn: an equation ends the copy", x.ringIn(), -1);
    }

    private static void anyProductionBelow() {
        Told t = new Told();
        AttribArbor x = t.x;
        t.production(0, 1, 2);
        t.production(1, 4);
        t.production(1, 5);
        t.production(2, 4);
        int up = x.attribute(Told.UP);
        int down = x.attribute(Told.DOWN);
        int other = x.attribute(Told.DOWN);
        t.child(up, 0).down(0, down, 1);
        t.child(up, 1).down(0, down, 0);
        t.own(down).up(2, up);
        Due.is("ringIn: one of them does not hang", x.ringIn(), -1);
        t.own(other).up(3, up);
        Due.is("ringIn: on another DOWN one", x.ringIn(), -1);
        t.number(1).number(2).own(down).add().add();
        x.equation(3, up, -1, 1);
        Due.is("ringIn: over two children", x.ringIn(), 0);
    }

    private static void forwards() {
        Told t = new Told();
        AttribArbor x = t.x;
        t.production(0, 1, 2, 1);
        t.production(0, 2, 1);
        t.production(1, 4);
        t.production(2, 4);
        int up = x.attribute(Told.UP);
        int down = x.attribute(Told.DOWN);
        t.own(down).up(2, up);
        // In 1 the child 1 stands for a 1; behind the forward it is the child 2 of 0.
        t.child(up, 1).down(1, down, 1);
        Due.is("ringIn: in the other one itself", x.ringIn(), 1);
        x.forward(0, 1, 1, 2, 0);
        Due.is("ringIn: behind a forward", x.ringIn(), 0);
        t.number(1).down(0, down, 2);
        Due.is("ringIn: its own equation goes first", x.ringIn(), 1);
        x.forward(0, 1, 1, 0, 0);
        Due.is("ringIn: another child stands there", x.ringIn(), 0);
        t.number(1).down(0, down, 0);
        Due.is("ringIn: that one is told as well", x.ringIn(), 1);
    }

    private static void threeForwards() {
        Told t = new Told();
        AttribArbor x = t.x;
        for (int i = 0; i < 5; i++) {
            t.production(0, 4);
            if (i > 0) {
                x.forward(i - 1, i, 0, 0, 0);
            }
        }
        int up = x.attribute(Told.UP);
        t.own(up);
        x.equation(4, up, -1, 1);
        Due.is("ringIn: at most 3 forwards", x.ringIn(), 1);
    }

    public static void main(String[] args) {
        conflicts();
        noRing();
        itself();
        conflictTellsBoth();
        copiedDown();
        anyProductionBelow();
        forwards();
        threeForwards();
        Due.end("LookTest");
    }
}
