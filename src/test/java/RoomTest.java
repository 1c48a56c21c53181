import com.sun.management.ThreadMXBean;
import java.lang.management.ManagementFactory;

/** 512 of the dearest calls on one object make little: bytes are an upper bound of what the room counts. */
public final class RoomTest {
    /** 7.3 million elements are 29 million bytes as ints; one object's run stays far below. */
    private static final long MOST_BYTES = 2_000_000;
    private static final ThreadMXBean THREADS = (ThreadMXBean) ManagementFactory.getThreadMXBean();
    private static int wrong = 0;

    public static void main(String[] args) {
        String[] yards = {
            "^bcd;^cde;^def;^ef0;^f01;^012",
            "^bcd;^cde;^def;^efa;^fab;^ab0",
            "^baa;^caa;^daa;^eaa;^faa;^0aa",
            "^bcd;^cde;^def;^efa;^fab;^abc",
            "=bcd;=cde;=def;=ef0;=f01;=012",
            "~bac;~cad;~dae;~eaf;~fag;~gah;~hai;~iaj;~ja1;~0aa",
            "=abc;=abc;=abc;=abc;=abc;=abc;=abc;=abc;=abc;=ab0"};
        for (String text : yards) {
            plans(text);
            digests(text);
        }
        manyYards();
        growingPlans();
        System.out.println("RoomTest: " + wrong + " wrong");
        System.exit(wrong == 0 ? 0 : 1);
    }

    private static long bytes() {
        return THREADS.getThreadAllocatedBytes(Thread.currentThread().getId());
    }

    private static void small(String what, long begun) {
        long made = bytes() - begun;
        if (made > MOST_BYTES) {
            wrong++;
            System.out.println(what + " made " + made + " bytes");
        }
    }

    private static void read(PointsThrow x, String text) {
        for (int i = 0; i < text.length(); i += 8) {
            long w = 0;
            for (int k = 0; k < 8 && i + k < text.length(); k++) {
                w |= (long) text.charAt(i + k) << 8 * k;
            }
            x.letters(w);
        }
        x.yard();
    }

    private static void plans(String text) {
        long begun = bytes();
        PointsThrow x = new PointsThrow();
        read(x, text);
        for (int i = 0; i < 8; i++) {
            x.want(0);
        }
        for (int i = 0; i < 10; i++) {
            x.begin(0);
            x.hands();
        }
        for (int i = 0; i < 470; i++) {
            x.apart();
        }
        small("plans of " + text, begun);
    }

    private static void digests(String text) {
        long begun = bytes();
        PointsThrow x = new PointsThrow();
        read(x, text);
        for (int i = 0; i < 250; i++) {
            x.digest();
            x.down();
        }
        small("digests of " + text, begun);
    }

    private static void manyYards() {
        long begun = bytes();
        PointsThrow x = new PointsThrow();
        for (int i = 0; i < 120; i++) {
            read(x, "^j;^j;^j;^j;^j;^j;^j;^j;^j;^0");
        }
        small("many yards", begun);
    }

    /** Each plan asks for more room than the one ahead of it. */
    private static void growingPlans() {
        long begun = bytes();
        PointsThrow x = new PointsThrow();
        x.want(0);
        String[] signs = {"", "~", "^"};
        for (int i = 0; i < 20; i++) {
            StringBuilder text = new StringBuilder();
            for (int k = 0; k < 6; k++) {
                char next = k < 5 ? (char) ('b' + k) : '0';
                text.append(k > 0 ? ";" : "").append(signs[k < i % 7 ? 2 : i / 7]).append(next).append("00");
            }
            read(x, text.toString());
            x.hands();
        }
        small("growing plans", begun);
    }
}
