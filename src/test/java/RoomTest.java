import com.sun.management.ThreadMXBean;
import java.lang.management.ManagementFactory;

/**
 * The dearest objects, for all their 512 calls: no call makes an object or an array, and each comes to an
 * end. All is made by the constructor, and that is little.
 */
public final class RoomTest {
    private static final int CALLS = 512;
    private static final long MOST_BYTES_OF_ONE = 200_000;
    // What the machine itself may lay aside while it runs; a row a call would be far more.
    private static final long MOST_BYTES_OF_CALLS = 2_000;
    private static final int A = 4;

    private static final ThreadMXBean MACHINE = (ThreadMXBean) ManagementFactory.getThreadMXBean();

    private interface Teller {
        /** Tells a grammar and a text; answers how many calls that took. */
        int tell(Told t);
    }

    private interface Call {
        /** One of the calls behind that: what it answers, less what is due. */
        long difference(AttribArbor x, int number);
    }

    private static long bytes() {
        return MACHINE.getThreadAllocatedBytes(Thread.currentThread().getId());
    }

    private static void isLittle(String what, Teller teller, Call call) {
        long made = 0;
        // The first round lets the machine load what it needs.
        for (int round = 0; round < 2; round++) {
            Told t = new Told();
            int told = teller.tell(t);
            long wrong = 0;
            long before = bytes();
            for (int number = told; number < CALLS; number++) {
                wrong += call.difference(t.x, number) == 0 ? 0 : 1;
            }
            made = bytes() - before;
            Due.is(what + ": calls that answered otherwise", wrong, 0);
        }
        Due.is(what + ": the calls made " + made + " bytes, that is too much", made > MOST_BYTES_OF_CALLS, false);
    }

    private static void oneObject() {
        new AttribArbor().found();
        long before = bytes();
        AttribArbor x = new AttribArbor();
        long made = bytes() - before;
        Due.is("an object has " + made + " bytes, that is too much", made > MOST_BYTES_OF_ONE, false);
        Due.is("an object finds nothing by itself", x.found(), 0);
    }

    /** 30 nodes in 6 calls: the root, 3 below it, 9 below these, and 17 without children below those. */
    private static int thirtyNodes(Told t) {
        t.production(0, 1, 1, 1);
        t.production(1, 2, 2, 2);
        t.production(2, 3, 3);
        t.production(2, A, 3);
        t.production(3);
        t.x.insert(0, 'a');
        return 6;
    }

    private static boolean isWithoutChildren(int node) {
        int inBranch = (node - 1) % 10;
        return node > 0 && inBranch > 0 && (inBranch - 1) % 3 > 0;
    }

    // Each node has a contribution from 17 nodes that tell 30 each.
    private static int tellGifts(Told t) {
        int calls = thirtyNodes(t);
        t.x.attribute(Told.GATHERED);
        for (int i = 0; i < 30; i++) {
            t.self().number(i).gift(4, 0);
            calls += 3;
        }
        return calls + 1;
    }

    // Each round changes all, and gathers for each node from all nodes: so they are CYCLE behind 30 rounds.
    private static int tellRounds(Told t) {
        int calls = thirtyNodes(t);
        t.x.attribute(Told.RING);
        t.x.attribute(Told.GATHERED);
        for (int production = 0; production < 5; production++) {
            t.own(1).own(0).number(1).add().max().up(production, 0);
            calls += 6;
        }
        for (int i = 0; i < 25; i++) {
            t.self().number(1).gift(4, 1);
            calls += 3;
        }
        return calls + 2;
    }

    // 29 nodes one below the other, and six attributes that look at each other: a chain of all of them.
    private static int tellChain(Told t) {
        t.production(0, 1);
        t.production(1, 2);
        t.production(2, 3);
        t.production(3, A, 0);
        t.production(0);
        int calls = 5;
        for (int i = 0; i < 6; i++) {
            t.x.attribute(Told.UP);
        }
        for (int production = 0; production < 4; production++) {
            for (int i = 0; i < 5; i++) {
                t.own(i + 1).number(1).add().up(production, i);
                calls += 4;
            }
            t.child(0, 0).up(production, 5);
            calls += 2;
        }
        for (int i = 0; i < 6; i++) {
            t.number(1).up(4, i);
            calls += 2;
        }
        Due.is("chain: nodes", t.text("aaaaaaa") / 100, 29);
        return calls + 6 + 7;
    }

    // Ten productions of three symbols, and a text with 11 letters, or 12.
    private static int tellText(Told t) {
        for (int i = 0; i < 8; i++) {
            t.production(i % 4, (i + 1) % 4, A + i % 6, (i + 2) % 4);
        }
        t.production(2, 9);
        t.production(1, 8, 9, A);
        t.text("abcdefabcde");
        return 21;
    }

    public static void main(String[] args) {
        oneObject();
        isLittle("gifts", RoomTest::tellGifts,
                (x, number) -> x.valueAnew(number % 30, 0) - (isWithoutChildren(number % 30) ? 435 : 0));
        isLittle("rounds", RoomTest::tellRounds, (x, number) -> number % 2 == 0
                ? x.toggle(3) ? 0 : 0 : x.value(number % 30, 0) - AttribArbor.CYCLE);
        isLittle("chain", RoomTest::tellChain, (x, number) -> x.valueAnew(0, 0) - (1 + 5 * 28));
        Told other = new Told();
        tellText(other);
        int longer = other.x.insert(5, 'f') / 100;
        int shorter = other.x.delete(5) / 100;
        Due.is("text: there are trees of some nodes", longer > 1 && shorter > 1, true);
        isLittle("text", RoomTest::tellText, (x, number) -> number % 2 == 1
                ? x.insert(5, 'f') / 100 - longer : x.delete(5) / 100 - shorter);
        Due.end("RoomTest");
    }
}
