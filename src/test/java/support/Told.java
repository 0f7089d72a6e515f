/** Tells an AttribArbor steps, equations and texts in a readable way. */
final class Told {
    static final int UP = 0, DOWN = 1, GATHERED = 2, RING = 3;

    final AttribArbor x = new AttribArbor();

    /** Each row is a nonterminal and its symbols. */
    static Told grammar(int[]... productions) {
        Told t = new Told();
        for (int[] p : productions) {
            t.x.production(p[0], p.length > 1 ? p[1] : -1, p.length > 2 ? p[2] : -1, p.length > 3 ? p[3] : -1);
        }
        return t;
    }

    static int[] p(int... row) {
        return row;
    }

    Told attributes(int... kinds) {
        for (int kind : kinds) {
            x.attribute(kind);
        }
        return this;
    }

    int production(int nonterminal, int... symbols) {
        return x.production(nonterminal, symbols.length > 0 ? symbols[0] : -1,
                symbols.length > 1 ? symbols[1] : -1, symbols.length > 2 ? symbols[2] : -1);
    }

    Told number(int a) {
        return step(0, a, 0);
    }

    Told own(int a) {
        return step(1, a, 0);
    }

    Told child(int a, int b) {
        return step(2, a, b);
    }

    Told letter(int a) {
        return step(3, a, 0);
    }

    Told put(int a) {
        return step(4, a, 0);
    }

    Told self() {
        return step(5, 0, 0);
    }

    Told at(int b) {
        return step(6, 0, b);
    }

    Told of(int a) {
        return step(7, a, 0);
    }

    Told add() {
        return step(8, 0, 0);
    }

    Told mul() {
        return step(9, 0, 0);
    }

    Told max() {
        return step(10, 0, 0);
    }

    Told or() {
        return step(11, 0, 0);
    }

    Told same() {
        return step(12, 0, 0);
    }

    Told choose() {
        return step(13, 0, 0);
    }

    Told kind() {
        return step(14, 0, 0);
    }

    private Told step(int kind, int a, int b) {
        x.step(kind, a, b);
        return this;
    }

    /** For the node itself, in aspect 0. */
    int up(int production, int attribute) {
        return x.equation(production, attribute, -1, 0);
    }

    int down(int production, int attribute, int child) {
        return x.equation(production, attribute, child, 0);
    }

    int gift(int production, int attribute) {
        return x.equation(production, attribute, -2, 0);
    }

    int ask(int node, int attribute) {
        return x.value(node, attribute);
    }

    /** Puts letters at the end of the text; answers what the last insert() answered. */
    int text(String letters) {
        int answer = letters.isEmpty() ? x.read() : 0;
        for (int i = 0; i < letters.length(); i++) {
            answer = x.insert(i, letters.charAt(i));
        }
        return answer;
    }
}
