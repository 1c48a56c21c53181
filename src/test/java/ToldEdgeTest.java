import java.math.BigInteger;
import java.util.ArrayList;
import java.util.List;

/** The edges of images, counts, digests and refusals: promises 27 to 30, each under the document's own words. */
public final class ToldEdgeTest extends Due {
    public static void main(String[] args) {
        constants();
        imageKeeps();
        imageEdges();
        restoreGoesOn();
        restoreRefused();
        countTells();
        countEdges();
        countsAtTheirMost();
        digestWraps();
        digestTells();
        digestOfParts();
        refusalsInOrder();
        withoutAYard();
        trucksWithoutAYard();
        tellingChangesNothing();
        manyCalls();
        end("ToldEdgeTest");
    }

    private static PointsThrow busy() {
        PointsThrow x = sent(wanting("012;=3;~45;^67", 1, 9), 4);
        x.image();
        x.begin(0);
        x.letters(pack("ab;"));
        return sent(x, 3);
    }

    private static void constants() {
        sentence("public static final int NONE = -1, UNKNOWN = -101, OUTSIDE = -102, STATE = -103, FULL = -104;");
        due("NONE", PointsThrow.NONE, -1);
        due("UNKNOWN", PointsThrow.UNKNOWN, -101);
        due("OUTSIDE", PointsThrow.OUTSIDE, -102);
        due("STATE", PointsThrow.STATE, -103);
        due("FULL", PointsThrow.FULL, -104);
    }

    private static void imageKeeps() {
        sentence("An IMAGE keeps all STANDS and SIDINGS.");
        PointsThrow x = yardOf("bc9;=d08;~123;^456");
        sent(x, 7);
        x.lever(1, 2);
        int[] stands = new int[4];
        for (int i = 0; i < 4; i++) {
            stands[i] = x.about(i, 2);
        }
        long before = x.digest();
        due("seven", x.image(), 7);
        due("it changes nothing", x.digest(), before);
        x.anew();
        for (int i = 0; i < 4; i++) {
            x.lever(i, 1);
        }
        sent(x, 60);
        due("goes on", x.restore(), 7);
        for (int i = 0; i < 4; i++) {
            due("stand of " + i, x.about(i, 2), stands[i]);
        }
        due("all is as it was", x.digest(), before);
        due("the next has the next number", x.down() >= 0 ? x.count(1) : NONE, 8);
    }

    private static void imageEdges() {
        sentence("`int image()`: An IMAGE is kept (one; the latest): how many TRUCKS. STATE: there is no YARD.");
        quiet("no yard", STATE, PointsThrow::new, PointsThrow::image);
        quiet("no yard, a page", STATE, () -> pageOf("01"), PointsThrow::image);
        due("no truck", yardOf("01").image(), 0);
        due("sixty", sent(yardOf("01"), 60).image(), 60);
        PointsThrow x = yardOf("01");
        for (int n = 0; n < 5; n++) {
            due("so many", x.image(), n);
            sent(x, 1);
        }
        due("the latest", x.restore(), 4);
        due("one", x.restore(), 4);
    }

    private static void restoreGoesOn() {
        sentence("`int restore()`: It goes on from the IMAGE: how many TRUCKS.");
        PointsThrow x = sent(yardOf("012"), 59);
        x.image();
        for (int i = 0; i < 3; i++) {
            due("the 60th", x.down(), 2);
            due("full", x.down(), FULL);
            due("59 again", x.restore(), 59);
        }
        PointsThrow none = yardOf("012");
        none.image();
        sent(none, 60);
        due("none", none.restore(), 0);
        due("none in siding 0", none.many(0), 0);
        due("the first", none.down(), 0);
        PointsThrow full = sent(yardOf("012"), 60);
        full.image();
        full.anew();
        due("sixty", full.restore(), 60);
        due("the last of these", full.truck(2, 19), 59);
        due("full again", full.down(), FULL);
        PointsThrow other = yardOf("01");
        other.image();
        other.want(3);
        other.begin(0);
        other.letters(pack("ab"));
        other.restore();
        due("wanted stay", other.count(2), 1);
        due("the page stays", other.count(3), 2);
        due("plans stay", other.count(5), 1);
    }

    private static void restoreRefused() {
        sentence("STATE: none was kept, or there is another YARD since.");
        quiet("no yard", STATE, PointsThrow::new, PointsThrow::restore);
        quiet("none was kept", STATE, () -> sent(yardOf("01"), 3), PointsThrow::restore);
        quiet("another yard", STATE, () -> {
            PointsThrow x = sent(yardOf("01"), 3);
            x.image();
            readNext(x, "2;3");
            return sent(x, 1);
        }, PointsThrow::restore);
        quiet("another yard of the same text", STATE, () -> {
            PointsThrow x = sent(yardOf("01"), 3);
            x.image();
            readNext(x, "01");
            return x;
        }, PointsThrow::restore);
        PointsThrow x = sent(yardOf("01"), 3);
        x.image();
        write(x, "b");
        due("a page that is none", x.yard(), STATE);
        due("is no other yard", x.restore(), 3);
        x.blank();
        readNext(x, "5");
        due("this one is", x.restore(), STATE);
        due("an image of it", x.image(), 0);
        sent(x, 1);
        due("is gone on from", x.restore(), 0);
        x.anew();
        due("anew it is the same yard", x.restore(), 0);
    }

    private static void countTells() {
        sentence("How many: 0 SWITCHES, 1 TRUCKS, 2 WANTED, 3 letters of THE PAGE, 4 how often a YARD was read, "
            + "5 how often begin(), hands() were done. OUTSIDE.");
        PointsThrow x = busy();
        int[] counts = {4, 7, 2, 3, 1, 1};
        for (int what = 0; what <= 5; what++) {
            int asked = what;
            due("what " + what, x.count(what), counts[what]);
            due("what of a new one " + what, new PointsThrow().count(what), 0);
            quiet("it changes nothing " + what, counts[what], ToldEdgeTest::busy, y -> y.count(asked));
        }
    }

    private static void countEdges() {
        sentence("5 how often begin(), hands() were done. OUTSIDE.");
        for (int what : new int[] {LEAST, -1, 6, 7, MOST}) {
            quiet("what " + what, OUTSIDE, ToldEdgeTest::busy, x -> x.count(what));
            quiet("no yard, what " + what, OUTSIDE, PointsThrow::new, x -> x.count(what));
        }
    }

    private static void countsAtTheirMost() {
        sentence("`int count(int what)`: How many: 0 SWITCHES, 1 TRUCKS, 2 WANTED, 3 letters of THE PAGE");
        PointsThrow x = atTheMost();
        int[] most = {10, 60, 8, 50, 2, 20};
        for (int what = 0; what <= 5; what++) {
            due("the most of " + what, x.count(what), most[what]);
        }
        due("no letter more", x.letters(pack("0")), FULL);
        due("no truck more", x.down(), FULL);
        due("none wanted more", x.want(0), FULL);
        for (int what = 0; what <= 5; what++) {
            due("still the most of " + what, x.count(what), most[what]);
        }
        PointsThrow yards = new PointsThrow();
        for (int i = 1; i <= 50; i++) {
            readNext(yards, "0");
            due("so many yards", yards.count(4), i);
            yards.yard();
            due("one that is none is not read", yards.count(4), i);
        }
    }

    /** Ten switches, sixty trucks, eight wanted, fifty letters, twenty plans. */
    private static PointsThrow atTheMost() {
        PointsThrow x = wanting("01", 0, 1, 2, 3, 4, 5, 6, 7);
        for (int i = 0; i < 20; i++) {
            due("plan " + i, x.begin(0), NONE);
        }
        readNext(x, "^bcd;~cde;def;=efg;^fgh;~ghi;hij;=ij0;~j12;345");
        sent(x, 60);
        write(x, "~".repeat(50));
        return x;
    }

    private static long wrapped(List<Integer> told) {
        BigInteger h = BigInteger.valueOf(521);
        for (int one : told) {
            h = h.multiply(BigInteger.valueOf(31)).add(BigInteger.valueOf(one));
        }
        return h.longValue();
    }

    private static List<Integer> numbersOf(PointsThrow x, int[] wanted, String page) {
        List<Integer> told = new ArrayList<>();
        for (int i = 0; i < x.count(0); i++) {
            for (int what : new int[] {0, 1, 2, 3, 4, 10, 11, 12}) {
                told.add(x.about(i, what));
            }
        }
        for (int s = 0; s < 10; s++) {
            told.add(x.many(s));
            for (int i = 0; i < x.many(s); i++) {
                told.add(x.truck(s, i));
            }
        }
        if (x.count(0) > 0) {
            told.add(x.moves());
            told.add(x.straight());
            for (int s = 0; s < 10; s++) {
                told.add(x.empty(s));
            }
            told.add(x.noticed());
        }
        for (int s : wanted) {
            told.add(s);
        }
        for (char c : page.toCharArray()) {
            told.add((int) c);
        }
        for (int what = 0; what <= 5; what++) {
            told.add(x.count(what));
        }
        return told;
    }

    private static void digestWraps() {
        sentence("`long digest()`: h is 521, then for each of these numbers, in order, 31 times h, and it "
            + "(as longs, wrapping)");
        // 521 times 31 to the 16th is far above a long's most: 16 numbers, all 0, are told of a new object.
        due("a new one", new PointsThrow().digest(),
            BigInteger.valueOf(521).multiply(BigInteger.valueOf(31).pow(16)).longValue());
        PointsThrow x = new PointsThrow();
        due("as numbered", x.digest(), wrapped(numbersOf(x, new int[0], "")));
        PointsThrow most = atTheMost();
        int[] wanted = {0, 1, 2, 3, 4, 5, 6, 7};
        due("the most", most.digest(), wrapped(numbersOf(most, wanted, "~".repeat(50))));
        boolean above = false;
        boolean below = false;
        PointsThrow some = yardOf("012;^34");
        for (int i = 0; i < 40; i++) {
            sent(some, 1);
            long h = some.digest();
            due("behind " + (i + 1), h, wrapped(numbersOf(some, new int[0], "")));
            above |= h > 0;
            below |= h < 0;
        }
        due("some are below 0, some above", above && below ? 1 : 0, 1);
    }

    private static void digestTells() {
        sentence("of each SWITCH what about() tells for 0 to 4, 10 to 12; of each SIDING how many TRUCKS, these; "
            + "with a YARD moves(), straight(), empty() of SIDINGS 0 to 9, noticed(); WANTED SIDINGS; "
            + "letters of THE PAGE; what count() tells for 0 to 5.");
        String[] texts = {"0", "a", "0a", "=01", "~012;^3", "bc;d12;=3d;^45", "0b;b", "00", "b;c;d;e;f;g;h;i;j;09"};
        for (String text : texts) {
            for (int trucks = 0; trucks < 3; trucks++) {
                PointsThrow x = wanting(text, 9, 0, 5);
                for (int i = 0; i < trucks; i++) {
                    x.down();
                }
                write(x, "=0;");
                due(text + " with " + trucks, x.digest(), wrapped(numbersOf(x, new int[] {9, 0, 5}, "=0;")));
            }
        }
        quiet("it changes nothing", busy().digest(), ToldEdgeTest::busy, PointsThrow::digest);
        quiet("nor without a yard", new PointsThrow().digest(), PointsThrow::new, PointsThrow::digest);
    }

    private static void digestOfParts() {
        sentence("WANTED SIDINGS; letters of THE PAGE; what count() tells for 0 to 5.");
        PointsThrow x = new PointsThrow();
        x.want(0);
        due("siding 0 is told", x.digest(), wrapped(numbersOf(x, new int[] {0}, "")));
        x.want(9);
        due("in their order", x.digest(), wrapped(numbersOf(x, new int[] {0, 9}, "")));
        x.letters(1L);
        due("code 1", x.digest(), wrapped(numbersOf(x, new int[] {0, 9}, (char) 1 + "")));
        x.letters(126L);
        due("code 126", x.digest(), wrapped(numbersOf(x, new int[] {0, 9}, (char) 1 + "~")));
        x.clear();
        x.blank();
        due("none is left", x.digest(), new PointsThrow().digest());
    }

    private static void refusalsInOrder() {
        sentence("Refusals, of several the first as told by each call: UNKNOWN (a number names nothing), "
            + "OUTSIDE (it is not as told), STATE (as told), FULL; they change nothing.");
        quiet("letters: OUTSIDE ahead of FULL", OUTSIDE, ToldEdgeTest::atTheMost, x -> x.letters(255L));
        quiet("letters: FULL", FULL, ToldEdgeTest::atTheMost, x -> x.letters(1L));
        quiet("yard", STATE, ToldEdgeTest::atTheMost, PointsThrow::yard);
        quiet("about: UNKNOWN ahead of OUTSIDE", UNKNOWN, ToldEdgeTest::atTheMost, x -> x.about(10, 13));
        quiet("about: OUTSIDE", OUTSIDE, ToldEdgeTest::atTheMost, x -> x.about(9, 13));
        quiet("as: UNKNOWN ahead of OUTSIDE", UNKNOWN, ToldEdgeTest::atTheMost, x -> x.as(10, 4));
        quiet("as: OUTSIDE", OUTSIDE, ToldEdgeTest::atTheMost, x -> x.as(9, 4));
        quiet("lever: UNKNOWN ahead of OUTSIDE", UNKNOWN, ToldEdgeTest::atTheMost, x -> x.lever(10, 3));
        quiet("lever: OUTSIDE", OUTSIDE, ToldEdgeTest::atTheMost, x -> x.lever(9, 3));
        quiet("down: FULL", FULL, ToldEdgeTest::atTheMost, PointsThrow::down);
        quiet("truck: UNKNOWN ahead of OUTSIDE", UNKNOWN, ToldEdgeTest::atTheMost, x -> x.truck(10, 60));
        quiet("truck: OUTSIDE", OUTSIDE, ToldEdgeTest::atTheMost, x -> x.truck(9, 60));
        quiet("nth: OUTSIDE", OUTSIDE, ToldEdgeTest::atTheMost, x -> x.nth(0));
        quiet("behind: UNKNOWN ahead of OUTSIDE", UNKNOWN, ToldEdgeTest::atTheMost, x -> x.behind(0, 10));
        quiet("ago: UNKNOWN ahead of OUTSIDE", UNKNOWN, ToldEdgeTest::atTheMost, x -> x.ago(-1, 10));
        quiet("want: UNKNOWN ahead of FULL", UNKNOWN, ToldEdgeTest::atTheMost, x -> x.want(10));
        quiet("want: FULL", FULL, ToldEdgeTest::atTheMost, x -> x.want(9));
        quiet("begin: OUTSIDE ahead of STATE", OUTSIDE, ToldEdgeTest::atTheMost, x -> x.begin(16));
        quiet("begin: STATE", STATE, ToldEdgeTest::atTheMost, x -> x.begin(15));
        quiet("hands: STATE", STATE, ToldEdgeTest::atTheMost, PointsThrow::hands);
        quiet("restore: STATE", STATE, ToldEdgeTest::atTheMost, PointsThrow::restore);
    }

    private static void withoutAYard() {
        sentence("Without a YARD: STATE, where it is told, behind UNKNOWN.");
        quiet("anew", STATE, PointsThrow::new, PointsThrow::anew);
        quiet("down", STATE, PointsThrow::new, PointsThrow::down);
        quiet("moves", STATE, PointsThrow::new, PointsThrow::moves);
        quiet("round", STATE, PointsThrow::new, PointsThrow::round);
        quiet("straight", STATE, PointsThrow::new, PointsThrow::straight);
        quiet("nth", STATE, PointsThrow::new, x -> x.nth(1));
        quiet("begin", STATE, PointsThrow::new, x -> x.begin(0));
        quiet("hands", STATE, PointsThrow::new, PointsThrow::hands);
        quiet("empty", STATE, PointsThrow::new, x -> x.empty(0));
        quiet("empty, behind UNKNOWN", UNKNOWN, PointsThrow::new, x -> x.empty(10));
        quiet("which", STATE, PointsThrow::new, PointsThrow::which);
        quiet("noticed", STATE, PointsThrow::new, PointsThrow::noticed);
        quiet("apart", STATE, PointsThrow::new, PointsThrow::apart);
        quiet("image", STATE, PointsThrow::new, PointsThrow::image);
        quiet("restore", STATE, PointsThrow::new, PointsThrow::restore);
        quiet("yard", STATE, PointsThrow::new, PointsThrow::yard);
        quiet("about", UNKNOWN, PointsThrow::new, x -> x.about(0, 0));
        quiet("as", UNKNOWN, PointsThrow::new, x -> x.as(0, 0));
        quiet("lever", UNKNOWN, PointsThrow::new, x -> x.lever(0, 0));
        quiet("behind", UNKNOWN, PointsThrow::new, x -> x.behind(1, 0));
        quiet("ago", UNKNOWN, PointsThrow::new, x -> x.ago(0, 0));
    }

    private static void trucksWithoutAYard() {
        sentence("the interface says: ---- trucks (STATE: no YARD).");
        PointsThrow x = pageOf("01");
        due("a page is no yard, down", x.down(), STATE);
        due("a page is no yard, moves", x.moves(), STATE);
        due("a page is no yard, round", x.round(), STATE);
        due("a page is no yard, straight", x.straight(), STATE);
        due("a page is no yard, nth", x.nth(1), STATE);
        // These two tell no STATE of their own: nothing stands in any siding.
        due("many", x.many(0), 0);
        due("truck", x.truck(0, 0), NONE);
        x.yard();
        due("with one a truck goes down", x.down(), 0);
    }

    private static void tellingChangesNothing() {
        sentence("Nothing is promised beyond the answers and state changes described above");
        PointsThrow known = busy();
        quiet("fault", known.fault(), ToldEdgeTest::busy, PointsThrow::fault);
        quiet("moves", known.moves(), ToldEdgeTest::busy, PointsThrow::moves);
        quiet("round", known.round(), ToldEdgeTest::busy, PointsThrow::round);
        quiet("straight", known.straight(), ToldEdgeTest::busy, PointsThrow::straight);
        quiet("nth", known.nth(1000000), ToldEdgeTest::busy, x -> x.nth(1000000));
        quiet("behind", known.behind(1000000, 0), ToldEdgeTest::busy, x -> x.behind(1000000, 0));
        quiet("ago", known.ago(1000000, 0), ToldEdgeTest::busy, x -> x.ago(1000000, 0));
        quiet("empty", known.empty(9), ToldEdgeTest::busy, x -> x.empty(9));
        quiet("which", known.which(), ToldEdgeTest::busy, PointsThrow::which);
        quiet("noticed", known.noticed(), ToldEdgeTest::busy, PointsThrow::noticed);
        quiet("apart", known.apart(), ToldEdgeTest::busy, PointsThrow::apart);
        quiet("many", known.many(1), ToldEdgeTest::busy, x -> x.many(1));
        quiet("truck", known.truck(1, 0), ToldEdgeTest::busy, x -> x.truck(1, 0));
        quiet("about", known.about(0, 2), ToldEdgeTest::busy, x -> x.about(0, 2));
        quiet("as", known.as(3, 1), ToldEdgeTest::busy, x -> x.as(3, 1));
    }

    private static void manyCalls() {
        sentence("An object is used for at most 512 calls after it has been made");
        PointsThrow x = pageOf("^bcd;~cde;def;=efg;^fgh;~ghi;hij;=ij0;~j12;345");
        int calls = 6;
        due("read", x.yard(), 10);
        long first = x.digest();
        calls += 2;
        while (calls + 4 < 512) {
            x.down();
            x.apart();
            x.digest();
            x.nth(1000000);
            calls += 4;
        }
        due("the 509th, full", x.down(), FULL);
        due("the 510th", x.count(1), 60);
        due("the 511th, anew", x.anew(), 60);
        due("the last, as the first", x.digest(), first);
        due("so many calls", calls + 4, 512);
    }
}
