/** Promises 12 to 17: the text, its tree, what is kept of it, and rewriting. */
public final class TreeTest {
    /** 0 -> "a" 0, 0 -> "b". */
    private static Told chain() {
        Told t = new Told();
        t.production(0, 4, 0);
        t.production(0, 5);
        return t;
    }

    // ---- promises 12 to 14
    private static void texts() {
        AttribArbor x = chain().x;
        Due.noPlace("insert: place 1 of none", () -> x.insert(1, 'a'));
        Due.noPlace("insert: place -1", () -> x.insert(-1, 'a'));
        Due.noPlace("insert: IOOBE first", () -> x.insert(1, 'g'));
        Due.badArgument("insert: 96", () -> x.insert(0, 96));
        Due.badArgument("insert: 103", () -> x.insert(0, 103));
        Due.badArgument("insert: a symbol", () -> x.insert(0, 4));
        Due.noPlace("delete: no letter", () -> x.delete(0));
        Due.is("read: b put in", x.read(), 100);
        Due.is("insert: b is there now", x.insert(0, 'b'), 100);
        Due.is("insert: ab", x.insert(0, 'a'), 200);
        Due.is("insert: aab", x.insert(1, 'a'), 301);
        Due.is("insert: aabc, c left out", x.insert(3, 'c'), 303);
        Due.is("cost: c left out", x.cost(), 1);
        Due.is("delete: abc", x.delete(0), 201);
        Due.is("delete: ac, b put in", x.delete(1), 201);
        Due.is("cost: c left out, b put in", x.cost(), 2);
        Due.is("read: the same", x.read(), 202);
        Due.noPlace("delete: place 2", () -> x.delete(2));
        Due.noPlace("delete: place -1", () -> x.delete(-1));
        Due.is("delete: a", x.delete(1), 202);
        Due.is("delete: nothing left", x.delete(0), 100);
        Due.is("cost: b put in", x.cost(), 1);
    }

    private static void twelveLetters() {
        AttribArbor x = chain().x;
        for (int i = 1; i < 12; i++) {
            Due.is("insert: letter " + i, x.insert(0, 'a'), i * 100 + 100 + Math.max(0, i - 1));
        }
        Due.is("insert: the twelfth one", x.insert(11, 'b'), 1211);
        Due.notNow("insert: 12 are there", () -> x.insert(12, 'a'));
        Due.badArgument("insert: IAE ahead of ISE", () -> x.insert(12, 'A'));
        Due.noPlace("insert: IOOBE ahead of ISE", () -> x.insert(13, 'a'));
        Due.is("insert: nothing was put there", x.read(), 1212);
        Due.is("delete: one of 12", x.delete(11), 1211);
    }

    private static void noProduction() {
        AttribArbor x = new AttribArbor();
        Due.notNow("insert: no production", () -> x.insert(0, 'a'));
        Due.badArgument("insert: IAE ahead, no production", () -> x.insert(0, 'g'));
        Due.notNow("read: no production", x::read);
        x.production(1, -1, -1, -1);
        Due.is("read: none for 0", x.read(), 0);
        Due.is("insert: none for 0", x.insert(0, 'a'), 0);
        x.production(0, 0, -1, -1);
        Due.is("read: none comes to an end", x.read(), 0);
        Due.is("cost: no tree", x.cost(), -1);
        Due.noPlace("node: no tree", () -> x.node(0));
        x.production(0, 1, 1, 4);
        Due.is("read: the text is there", x.read(), 300);
        Due.is("cost: nothing to repair", x.cost(), 0);
    }

    private static void oneProduction() {
        AttribArbor x = new AttribArbor();
        x.production(0, 4, -1, -1);
        Due.is("one production: read", x.read(), 100);
        Due.is("one production: insert", x.insert(0, 'a'), 100);
        Due.is("one production: insert, left out", x.insert(0, 'a'), 101);
        Due.is("one production: delete", x.delete(1), 101);
        Due.is("one production: delete, put in", x.delete(0), 100);
    }

    /** Where a nonterminal is told by the next one, and the productions stand so that each turn tells one. */
    private static void chainsOfProductions() {
        isRead("", 4, 1, 1, p(0, 1), p(1, 2), p(2, 3), p(3, 4));
        isRead("aa", 8, 0, 3, p(0, 1, 1, 1), p(1, 2), p(2, 3), p(3, 4), p(1));
        isRead("abab", 11, 0, 3, p(0, 1, 1, 2), p(1, 2, 2), p(2, 3), p(3), p(2, 4, 5));
    }

    /** A text read by a new object with these productions: the answer of read(), the cost, and node(0). */
    private static AttribArbor isRead(String text, int nodes, int cost, int root, int[]... productions) {
        Told t = new Told();
        for (int[] p : productions) {
            t.x.production(p[0], p[1], p[2], p[3]);
        }
        t.text(text);
        String what = "a tree for '" + text + "'";
        Due.is(what + ", nodes", t.x.read(), nodes * 101);
        Due.is(what + ", cost", t.x.cost(), cost);
        if (nodes > 0) {
            Due.is(what + ", root", t.x.node(0), root);
        }
        return t.x;
    }

    private static int[] p(int... row) {
        int[] all = {row[0], -1, -1, -1};
        System.arraycopy(row, 0, all, 0, row.length);
        return all;
    }

    // ---- promises 14 and 15: which tree is taken
    private static void costs() {
        isRead("", 1, 0, 0, p(0));
        isRead("abcdef", 1, 6, 0, p(0));
        isRead("", 1, 1, 0, p(0, 4));
        isRead("a", 1, 0, 0, p(0, 4));
        isRead("f", 1, 0, 0, p(0, 9));
        isRead("f", 1, 2, 0, p(0, 4));
        isRead("bab", 1, 2, 0, p(0, 4));
        isRead("aaa", 1, 2, 0, p(0, 4));
        isRead("bb", 1, 3, 0, p(0, 4));
        isRead("ba", 1, 2, 0, p(0, 4, 5));
        isRead("acbd", 1, 2, 0, p(0, 4, 5));
        isRead("abc", 1, 0, 0, p(0, 4, 5, 6));
        isRead("ac", 1, 1, 0, p(0, 4, 5, 6));
        isRead("bcabc", 1, 2, 0, p(0, 4, 5, 6));
        isRead("", 1, 3, 0, p(0, 4, 5, 6));
        isRead("abcabcabcabc", 1, 9, 0, p(0, 4, 5, 6));
    }

    private static void choices() {
        // The least cost goes ahead of the nodes, the nodes ahead of the number.
        isRead("a", 2, 0, 11, p(0), p(0, 4, 0));
        isRead("aa", 1, 0, 20, p(0, 1, 1), p(1, 4), p(0, 4, 4));
        isRead("aa", 1, 0, 10, p(0, 5, 5), p(0, 4, 4), p(0, 4, 4));
        isRead("", 1, 0, 0, p(0), p(0, 0), p(0, 0, 0));
        isRead("ab", 2, 0, 11, p(0, 0), p(0, 1, 5), p(1, 4));
        // A ring of productions is not gone through.
        isRead("b", 3, 0, 1, p(0, 1), p(1, 0), p(1, 2), p(2, 5));
        // None comes to an end, or only over others.
        isRead("a", 0, -1, 0, p(0, 0, 4), p(0, 1), p(1, 0));
        isRead("ab", 3, 0, 2, p(0, 2, 1), p(1, 5), p(2, 4));
    }

    private static void shortestFirst() {
        Told t = new Told();
        AttribArbor x = t.x;
        t.production(0, 1, 1, 1);
        t.production(1, 4);
        int put = x.attribute(Told.UP);
        t.put(0).up(1, put);
        Due.is("three for one letter", t.text("a"), 400);
        Due.is("cost of three for one letter", x.cost(), 2);
        Due.is("the first is put in", x.value(1, put), 1);
        Due.is("the second is put in", x.value(2, put), 1);
        Due.is("the third is there", x.value(3, put), 0);
        Due.is("two letters", x.insert(0, 'a'), 403);
        Due.is("the first is put in again", x.value(1, put), 1);
        Due.is("the second is there now", x.value(2, put), 0);
        // The first one on a longer stretch costs the same: "b" is left out, by the second or the third.
        Due.is("aba", x.insert(1, 'b'), 404);
        Due.is("the first is put in still", x.value(1, put), 1);
    }

    private static void lowestThenShortest() {
        Told t = new Told();
        AttribArbor x = t.x;
        t.production(0, 1, 2);
        t.production(1);
        t.production(1, 4);
        t.production(2);
        t.production(2, 4);
        // For "a": the first symbol on nothing is taken, then the lowest production for what is left.
        Due.is("a, first on nothing", t.text("a"), 300);
        Due.is("a, child 0", x.node(1), 1010);
        Due.is("a, child 1", x.node(2), 1040);
        Due.is("b, first on nothing", x.insert(0, 'b') % 100 > 0 ? 1 : 0, 1);
        Due.is("ba costs", x.cost(), 1);
        Due.is("ba, child 0", x.node(1), 1010);
        Due.is("ba, child 1", x.node(2), 1040);
    }

    private static void thirtyNodes() {
        Told t = new Told();
        AttribArbor x = t.x;
        t.production(0, 1, 0);
        t.production(0, 3, 3);
        t.production(1, 4, 2);
        t.production(2);
        t.production(3);
        Due.is("30 nodes", t.text("aaaaaaaaa") / 100, 30);
        Due.is("30 nodes, parent of the last one", x.node(29), 1000 * 28 + 40);
        Due.noPlace("30 nodes, node 30", () -> x.node(30));
        Due.is("33 nodes are no tree", x.insert(0, 'a'), 0);
        Due.is("33 nodes have no cost", x.cost(), -1);
        Due.noPlace("33 nodes, node 0", () -> x.node(0));
        Due.is("30 nodes again, all of them new", x.delete(0), 3000);
        Due.is("27 nodes", x.delete(0), 2724);
    }

    private static void thirtyOneNodes() {
        Told t = new Told();
        t.production(0, 1, 1, 1);
        t.production(1, 2, 2, 2);
        t.production(2, 3, 3);
        t.production(3);
        Due.is("31 nodes are no tree", t.text(""), 0);
        t.production(2);
        Due.is("13 nodes", t.x.read(), 1300);
    }

    // ---- promise 16
    private static void nodes() {
        Told t = new Told();
        AttribArbor x = t.x;
        t.production(0, 1, 4, 2);
        t.production(1, 5, 2);
        t.production(2, 6, 1);
        t.production(2);
        Due.is("bca and nothing", t.text("bcba") / 100, 6);
        int[] due = {2, 1011, 2021, 3011, 4030, 1030};
        for (int n = 0; n < 6; n++) {
            Due.is("node " + n, x.node(n), due[n]);
        }
        Due.noPlace("node: 6", () -> x.node(6));
        Due.noPlace("node: -1", () -> x.node(-1));
        Due.noPlace("node: lowest", () -> x.node(Integer.MIN_VALUE));
    }

    private static void keptNodes() {
        Told t = new Told();
        AttribArbor x = t.x;
        t.production(0, 1, 0);
        t.production(0);
        t.production(1, 4);
        t.production(1, 5);
        Due.is("ab", t.text("ab"), 502);
        Due.is("aab: the second letter is another one, and what is behind it", x.insert(0, 'a'), 703);
        Due.is("aabb", x.insert(3, 'b'), 906);
        Due.is("abb: alike up to what is new", x.delete(1), 705);
        Due.is("abbc: c is left out, all is kept", x.insert(3, 'c'), 707);
        x.production(0, 1, 1, 1);
        Due.is("read: a better tree", x.read(), 400);
        Due.is("read: and again", x.read(), 404);
    }

    // ---- promise 17
    private static Told rewriting() {
        Told t = new Told();
        t.production(0, 4, 0);
        t.production(0, 5, 0);
        t.production(0);
        t.x.attribute(Told.UP);
        t.x.attribute(Told.UP);
        t.x.attribute(Told.UP);
        return t;
    }

    private static void rewrites() {
        Told t = rewriting();
        AttribArbor x = t.x;
        t.number(1).up(0, 0);
        t.kind().up(0, 1);
        t.kind().number(100).add().up(1, 1);
        t.letter(0).up(0, 2);
        t.letter(0).number(50).add().up(1, 2);
        t.text("aab");
        Due.noPlace("rewrite: node 4", () -> x.rewrite(4));
        Due.noPlace("rewrite: node -1", () -> x.rewrite(-1));
        Due.is("rewrite: no rule", x.rewrite(1), 0);
        Due.is("rewrite: nothing was asked", x.found(), 0);
        x.rule(0, 0, 1);
        Due.is("rewrite: by the rule", x.rewrite(1), 1);
        Due.is("rewrite: asked as by value()", x.found(), 1);
        Due.is("rewrite: the other one has no rule", x.rewrite(1), 1);
        Due.is("rewrite: as it was read", x.node(1), 1001);
        Due.is("rewrite: its child", x.node(2), 2011);
        Due.is("rewrite: its equations and KIND", x.value(1, 1), 101);
        Due.is("rewrite: its letters stay", x.value(1, 2), 51);
        Due.is("rewrite: not the other nodes", x.value(0, 1), 0);
        Due.is("rewrite: the text is as it was", x.read(), 404);
        Due.is("rewrite: it keeps that", x.value(1, 1), 101);
        Due.is("rewrite: while it is kept", x.insert(3, 'b'), 503);
        Due.is("rewrite: it is kept", x.value(1, 1), 101);
        x.rule(1, 1, 0);
        Due.is("rewrite: back by the other rule", x.rewrite(1), 0);
        Due.is("rewrite: and there again", x.rewrite(1), 1);
        Due.is("rewrite: bab, the root is new, and all below it", x.insert(0, 'b'), 600);
        Due.is("rewrite: a new one is as it was read", x.value(1, 1), 0);
    }

    private static void rewritesNot() {
        Told t = rewriting();
        AttribArbor x = t.x;
        x.rule(0, 0, 1);
        t.text("a");
        Due.is("rewrite: NONE", x.rewrite(0), 0);
        Due.is("rewrite: NONE is found", x.found(), 1);
        t.number(0);
        x.equation(0, 0, -1, 0);
        Due.is("rewrite: 0", x.rewrite(0), 0);
        x.toggle(0);
        t.self();
        x.equation(0, 0, -1, 1);
        Due.is("rewrite: a reference", x.rewrite(0), 0);
        x.toggle(1);
        t.own(0);
        x.equation(0, 0, -1, 2);
        Due.is("rewrite: CYCLE", x.rewrite(0), 0);
        t.number(1);
        x.equation(0, 0, -1, 3);
        Due.is("rewrite: CONFLICT", x.rewrite(0), 0);
        x.toggle(2);
        Due.is("rewrite: 1", x.rewrite(0), 1);
    }

    private static void rewritesByRing() {
        Told t = new Told();
        AttribArbor x = t.x;
        t.production(0, 4, 0);
        t.production(0, 5, 0);
        t.production(0);
        int ring = x.attribute(Told.RING);
        t.own(ring).number(999).max().up(0, ring);
        x.rule(0, ring, 1);
        t.text("aa");
        Due.is("rewrite: by a RING attribute", x.rewrite(1), 1);
        Due.is("rewrite: a RING one is not counted", x.found(), 0);
        Due.is("rewrite: the rings are found anew", x.value(1, ring), -1);
        Due.is("rewrite: the other node's", x.value(0, ring), 999);
    }

    public static void main(String[] args) {
        texts();
        twelveLetters();
        noProduction();
        oneProduction();
        chainsOfProductions();
        costs();
        choices();
        shortestFirst();
        lowestThenShortest();
        thirtyNodes();
        thirtyOneNodes();
        nodes();
        keptNodes();
        rewrites();
        rewritesNot();
        rewritesByRing();
        Due.end("TreeTest");
    }
}
