/** The edges of trucks let down, rounds and counts: section 2 and promises 10 to 18, each under the document's words. */
public final class TruckEdgeTest extends Due {
    /** Found by trying: the first truck stops behind 499, 500 and 501 moves. */
    private static final String MOVES_499 = "~ib;=a;jgi;gc;a;fh;abd;bg;ih;ef0";
    private static final String MOVES_500 = "~f;aah;f;iai;~dca;fb;b;eac;fc0";
    private static final String MOVES_501 = "da;=hjc;~jbh;i;~fga;~ib;cb;~ae;f;ig0";
    private static final String TEN_STRAIGHT = "^bcd;cde;~def;efg;^fgh;~ghi;hij;^ij0;~j12;345";
    /** Switches lead against their letters, to and fro; two held ones point on. */
    private static final String TEN_MIXED = "~hje;0;^bd1;b12;=gib;34;~fdb;ci;=jdc;^fgd";
    private static final int[] NO_SWITCHES = {LEAST, -1, 4, 10, MOST};
    private static final int[] NO_SIDINGS = {LEAST, -1, 10, 11, MOST};

    public static void main(String[] args) {
        fiveHundredMoves();
        numbered();
        sixtyAtMost();
        standBehind();
        goesRound();
        round();
        roundOfStands();
        straight();
        downEdges();
        manyEdges();
        truckEdges();
        movesEdges();
        roundEdges();
        straightEdges();
        nthCounts();
        nthEdges();
        behindEdges();
        behindRefused();
        agoCounts();
        agoEdges();
        agoRefused();
        end("TruckEdgeTest");
    }

    private static PointsThrow tree() {
        PointsThrow x = sent(yardOf("bc;d12;=3d;^45"), 2);
        x.image();
        return sent(x, 3);
    }

    private static PointsThrow notStraight() {
        return sent(yardOf("0a;1;2;3"), 2);
    }

    private static void fiveHundredMoves() {
        sentence("If it is in none behind 500 moves (one is: from a SWITCH on), it GOES ROUND.");
        due("one move", yardOf("0").moves(), 1);
        due("two", yardOf("b;0").moves(), 2);
        due("ten", yardOf("b;c;d;e;f;g;h;i;j;0").moves(), 10);
        due("499, it stops", yardOf(MOVES_499).down(), 0);
        due("500, it stops", yardOf(MOVES_500).down(), 0);
        due("501, it goes round", yardOf(MOVES_501).down(), NONE);
        due("for good", yardOf("a").down(), NONE);
        due("500, told by count", yardOf(MOVES_500).empty(0), 0);
        due("501, told by count", yardOf(MOVES_501).empty(0), NONE);
        due("500, explained by none stuck", wanting(MOVES_500, 0).which() >> 10, 1);
        due("501, not explained so", wanting(MOVES_501, 0).which() >> 10, 0);
    }

    private static void numbered() {
        sentence("LET DOWN: TRUCKS are numbered from 0");
        PointsThrow x = yardOf("01");
        sent(x, 4);
        due("the first", x.truck(0, 0), 0);
        due("the second", x.truck(1, 0), 1);
        due("the third", x.truck(0, 1), 2);
        due("the fourth", x.truck(1, 1), 3);
        x.anew();
        sent(x, 1);
        due("the first again", x.truck(0, 0), 0);
    }

    private static void sixtyAtMost() {
        sentence("(60 at most)");
        PointsThrow x = sent(yardOf("01"), 58);
        due("the 59th", x.down(), 0);
        due("59 stand there", x.count(1), 59);
        due("the 60th", x.down(), 1);
        due("60 stand there", x.count(1), 60);
        due("the 61st", x.down(), FULL);
        due("still 60", x.count(1), 60);
        due("the next one would stop there", x.nth(1), 0);
        due("it would make a move", x.moves(), 1);
    }

    private static void standBehind() {
        sentence("each stands behind those that are in its SIDING already.");
        PointsThrow x = sent(yardOf("^09"), 60);
        due("thirty here", x.many(0), 30);
        due("thirty there", x.many(9), 30);
        for (int i = 0; i < 30; i++) {
            due("here " + i, x.truck(0, i), i / 2 * 4 + i % 2);
            due("there " + i, x.truck(9, i), i / 2 * 4 + i % 2 + 2);
        }
    }

    private static void goesRound() {
        sentence("One that would GO ROUND is not let down (all STANDS are as ahead).");
        PointsThrow x = yardOf("0bb;~ccb;^bb");
        due("the first stops", x.down(), 0);
        due("the second goes round", x.down(), NONE);
        due("one truck", x.count(1), 1);
        for (int i = 0; i < 3; i++) {
            due("stand of " + i, x.about(i, 2), i == 0 ? 1 : 0);
        }
        x.lever(0, 0);
        due("the next one stops", x.down(), 0);
        due("it has the next number", x.truck(0, 1), 1);
        quiet("nothing changed", NONE, () -> sent(yardOf("0bb;~ccb;^bb"), 1), PointsThrow::down);
        quiet("nothing changed by 501 moves", NONE, () -> yardOf(MOVES_501), PointsThrow::down);
    }

    private static void round() {
        sentence("ROUND: of the next TRUCK, if it GOES ROUND: the least p (1 to 500) so that behind 500 moves and "
            + "behind p more it is at the same SWITCH");
        due("1", yardOf("a").round(), 1);
        due("2", yardOf("b;a").round(), 2);
        due("3", yardOf("b;c;a").round(), 3);
        due("10", yardOf("b;c;d;e;f;g;h;i;j;a").round(), 10);
        due("500", yardOf("~edb;ac;aad;de;^dcb").round(), 500);
        due("501 is none of these", yardOf("ec;fdd;~ae;eef;cff;bc").round(), NONE);
        due("it does not go round", yardOf("0").round(), NONE);
        due("it stops behind 499", yardOf(MOVES_499).round(), NONE);
        due("it stops behind 500", yardOf(MOVES_500).round(), NONE);
        due("it would stop behind 501", yardOf(MOVES_501).round(), NONE);
        // A way to b and c, and then a round of these two alone: a is not come to again.
        due("the round itself, not the way to it", yardOf("b;c;b").round(), 2);
    }

    private static void roundOfStands() {
        sentence("and all are in the same STANDS.");
        due("held", yardOf("=aaa").round(), 1);
        due("two stands", yardOf("aa").round(), 2);
        due("three", yardOf("aaa").round(), 3);
        due("a swinging one of four", yardOf("~aaa").round(), 4);
        due("a lazy one of two", yardOf("^a").round(), 2);
        due("a lazy one of six", yardOf("^aaa").round(), 6);
        due("two by three, both each time", yardOf("bb;aaa").round(), 12);
        due("a switch that is not come to does not matter", yardOf("a;000").round(), 1);
    }

    private static void straight() {
        sentence("THE YARD is STRAIGHT, if no SWITCH that a TRUCK can come to leads back to itself by any WAYS.");
        due("one switch", yardOf("0").straight(), 1);
        due("by its first way", yardOf("a00").straight(), 0);
        due("by its last way", yardOf("00a").straight(), 0);
        due("by ten", yardOf("b;c;d;e;f;g;h;i;j;a").straight(), 0);
        due("by none of ten", yardOf(TEN_STRAIGHT).straight(), 1);
        due("the last one to itself", yardOf("b;c;d;e;f;g;h;i;j;0j").straight(), 0);
        due("one that no truck can come to", yardOf("0;b").straight(), 1);
        due("one that leads to a, but none to it", yardOf("0;ab").straight(), 1);
        due("back to b, not to a", yardOf("b;c;0b").straight(), 0);
        due("by a way that a held does not point at", yardOf("=0a").straight(), 0);
        due("to one by two", yardOf("bc;d;d;0").straight(), 1);
        due("to one twice", yardOf("bbb;000").straight(), 1);
        due("against the letters", yardOf("j;0;b;c;d;e;f;g;h;i").straight(), 1);
        PointsThrow x = yardOf("=0a");
        x.lever(0, 1);
        due("wherever it points", x.straight(), 0);
    }

    private static void downEdges() {
        sentence("`int down()`: The next TRUCK is LET DOWN: its SIDING; NONE: it would GO ROUND. STATE; FULL.");
        quiet("without a yard", STATE, PointsThrow::new, PointsThrow::down);
        due("siding 0", yardOf("0").down(), 0);
        due("siding 9", yardOf("9").down(), 9);
        due("goes round", yardOf("a").down(), NONE);
        quiet("full", FULL, () -> sent(yardOf("01"), 60), PointsThrow::down);
        PointsThrow x = yardOf("0b;b");
        for (int i = 0; i < 59; i++) {
            x.lever(0, 0);
            due("stops " + i, x.down(), 0);
        }
        due("goes round with 59", x.down(), NONE);
        x.lever(0, 0);
        due("stops with 59", x.down(), 0);
        due("would go round with 60", x.down(), FULL);
        x.anew();
        due("none is there again", x.down(), 0);
    }

    private static void manyEdges() {
        sentence("`int many(int siding)`: How many TRUCKS are in a SIDING. UNKNOWN: siding (0 to 9).");
        PointsThrow x = sent(yardOf("099"), 4);
        due("siding 0", x.many(0), 2);
        due("siding 9", x.many(9), 2);
        due("an empty one", x.many(5), 0);
        due("all sixty", sent(yardOf("7"), 60).many(7), 60);
        for (int siding : NO_SIDINGS) {
            quiet("siding " + siding, UNKNOWN, TruckEdgeTest::tree, y -> y.many(siding));
            quiet("without a yard, siding " + siding, UNKNOWN, PointsThrow::new, y -> y.many(siding));
        }
        // It tells no STATE: all sidings are empty without a yard.
        due("without a yard", new PointsThrow().many(0), 0);
        due("without a yard, the last", new PointsThrow().many(9), 0);
    }

    private static void truckEdges() {
        sentence("The i-th TRUCK of a SIDING (NONE: there is none). UNKNOWN; OUTSIDE: i (0 to 59).");
        PointsThrow x = sent(yardOf("7"), 59);
        due("the first", x.truck(7, 0), 0);
        due("the 59th", x.truck(7, 58), 58);
        due("no 60th", x.truck(7, 59), NONE);
        sent(x, 1);
        due("the 60th", x.truck(7, 59), 59);
        due("none in 0", x.truck(0, 0), NONE);
        due("none in 9", x.truck(9, 59), NONE);
        for (int i : new int[] {LEAST, -1, 60, 61, MOST}) {
            quiet("i " + i, OUTSIDE, TruckEdgeTest::tree, y -> y.truck(9, i));
            quiet("of several the first, i " + i, UNKNOWN, TruckEdgeTest::tree, y -> y.truck(10, i));
        }
        for (int siding : NO_SIDINGS) {
            quiet("siding " + siding, UNKNOWN, TruckEdgeTest::tree, y -> y.truck(siding, 0));
            quiet("without a yard, siding " + siding, UNKNOWN, PointsThrow::new, y -> y.truck(siding, 60));
        }
        due("without a yard", new PointsThrow().truck(0, 0), NONE);
        due("without a yard, i 60", new PointsThrow().truck(0, 60), OUTSIDE);
    }

    private static void movesEdges() {
        sentence("How many moves the next TRUCK would make (500, if it GOES ROUND). STATE.");
        quiet("without a yard", STATE, PointsThrow::new, PointsThrow::moves);
        quiet("nothing moves", 2, TruckEdgeTest::tree, PointsThrow::moves);
        due("one", yardOf("9").moves(), 1);
        due("499", yardOf(MOVES_499).moves(), 499);
        due("500, it stops", yardOf(MOVES_500).moves(), 500);
        due("501, it goes round", yardOf(MOVES_501).moves(), 500);
        due("for good", yardOf("a").moves(), 500);
        due("with sixty trucks", sent(yardOf("b0;1"), 60).moves(), 2);
    }

    private static void roundEdges() {
        sentence("`int round()`: ROUND; NONE: it does not GO ROUND, or by no p. STATE.");
        quiet("without a yard", STATE, PointsThrow::new, PointsThrow::round);
        quiet("nothing moves", 6, () -> yardOf("^aaa"), PointsThrow::round);
        quiet("it does not go round", NONE, TruckEdgeTest::tree, PointsThrow::round);
        quiet("by no p", NONE, () -> yardOf("ec;fdd;~ae;eef;cff;bc"), PointsThrow::round);
        PointsThrow x = yardOf("0a");
        due("now it does not", x.round(), NONE);
        x.lever(0, 1);
        due("nor thrown, as it turns", x.round(), NONE);
    }

    private static void straightEdges() {
        sentence("`int straight()`: Whether it is STRAIGHT: 1, 0. STATE.");
        quiet("without a yard", STATE, PointsThrow::new, PointsThrow::straight);
        quiet("it is", 1, TruckEdgeTest::tree, PointsThrow::straight);
        quiet("it is not", 0, TruckEdgeTest::notStraight, PointsThrow::straight);
    }

    private static void nthCounts() {
        sentence("In a STRAIGHT one: NTH: in which SIDING the n-th TRUCK from now on (1 to 1000000) would stop");
        for (String text : new String[] {TEN_STRAIGHT, TEN_MIXED}) {
            PointsThrow x = yardOf(text);
            PointsThrow alone = yardOf(text);
            due("straight " + text, x.straight(), 1);
            for (int n = 1; n <= 60; n++) {
                due("the one " + n, x.nth(n), alone.down());
            }
            Model m = modelOf(text);
            for (int n : new int[] {61, 99999, 999999, 1000000}) {
                due("the one " + n, x.nth(n), m.nth(n));
            }
        }
        PointsThrow three = yardOf("012");
        due("now", three.nth(1), 0);
        sent(three, 1);
        due("behind one", three.nth(1), 1);
        three.lever(0, 0);
        due("thrown", three.nth(1), 0);
        due("and then", three.nth(2), 1);
    }

    private static void nthEdges() {
        sentence("`int nth(int n)`: NTH: a SIDING. STATE (not STRAIGHT, too); OUTSIDE: n.");
        quiet("1", 0, () -> yardOf("01"), x -> x.nth(1));
        quiet("2", 1, () -> yardOf("01"), x -> x.nth(2));
        quiet("1000000", 1, () -> yardOf("01"), x -> x.nth(1000000));
        quiet("999999", 0, () -> yardOf("01"), x -> x.nth(999999));
        due("with sixty trucks", sent(yardOf("01"), 60).nth(1), 0);
        for (int n : new int[] {LEAST, -1, 0, 1000001, MOST}) {
            quiet("n " + n, OUTSIDE, TruckEdgeTest::tree, x -> x.nth(n));
            quiet("not straight, of several the first, " + n, STATE, TruckEdgeTest::notStraight, x -> x.nth(n));
            quiet("without a yard, of several the first, " + n, STATE, PointsThrow::new, x -> x.nth(n));
        }
        quiet("not straight", STATE, TruckEdgeTest::notStraight, x -> x.nth(1));
        quiet("without a yard", STATE, PointsThrow::new, x -> x.nth(1));
    }

    private static void behindEdges() {
        sentence("and in which STAND a SWITCH would be behind n TRUCKS.");
        for (String text : new String[] {TEN_STRAIGHT, TEN_MIXED}) {
            PointsThrow x = yardOf(text);
            PointsThrow alone = yardOf(text);
            for (int n = 1; n <= 60; n++) {
                alone.down();
                for (int i = 0; i < 10; i++) {
                    due(i + " behind " + n, x.behind(n, i), alone.about(i, 2));
                }
            }
            Model m = modelOf(text);
            for (int i = 0; i < 10; i++) {
                due(i + " behind 1000000", x.behind(1000000, i), m.behind(1000000, i));
            }
        }
        PointsThrow four = yardOf("~012;345");
        due("one ahead of the last stand's end", four.behind(3, 0), 3);
        due("behind the last one to 0", four.behind(4, 0), 0);
        due("a million are 4 by 250000", four.behind(1000000, 0), 0);
        due("one less", four.behind(999999, 0), 3);
        due("one that no truck comes to", four.behind(1000000, 1), 0);
        four.lever(1, 2);
        due("it stays as it stands", four.behind(7, 1), 2);
        PointsThrow held = yardOf("=012");
        held.lever(0, 2);
        due("a held one stays", held.behind(1000000, 0), 2);
    }

    private static void behindRefused() {
        sentence("The STAND of a SWITCH behind n TRUCKS. UNKNOWN; STATE: not STRAIGHT; OUTSIDE: n.");
        quiet("behind 1", 0, TruckEdgeTest::tree, x -> x.behind(1, 0));
        quiet("behind 1000000, the last", 1, () -> yardOf("b;^0"), x -> x.behind(999997, 1));
        for (int point : NO_SWITCHES) {
            quiet("no switch " + point, UNKNOWN, TruckEdgeTest::tree, x -> x.behind(1, point));
            quiet("ahead of n " + point, UNKNOWN, TruckEdgeTest::tree, x -> x.behind(0, point));
            quiet("ahead of not straight " + point, UNKNOWN, TruckEdgeTest::notStraight, x -> x.behind(1, point));
            quiet("ahead of both " + point, UNKNOWN, TruckEdgeTest::notStraight, x -> x.behind(0, point));
        }
        for (int n : new int[] {LEAST, -1, 0, 1000001, MOST}) {
            quiet("n " + n, OUTSIDE, TruckEdgeTest::tree, x -> x.behind(n, 3));
            quiet("not straight ahead of n " + n, STATE, TruckEdgeTest::notStraight, x -> x.behind(n, 3));
        }
        quiet("not straight", STATE, TruckEdgeTest::notStraight, x -> x.behind(1, 0));
        quiet("without a yard no switch is known", UNKNOWN, PointsThrow::new, x -> x.behind(1, 0));
        quiet("without a yard, no n", UNKNOWN, PointsThrow::new, x -> x.behind(0, 0));
    }

    private static void agoCounts() {
        sentence("AGO: in which STAND a SWITCH was n TRUCKS ago (0 to 1000000), if THE YARD went on alone since.");
        for (String text : new String[] {TEN_STRAIGHT, TEN_MIXED}) {
            PointsThrow x = yardOf(text);
            int[][] stood = new int[61][10];
            for (int n = 0; n <= 60; n++) {
                for (int i = 0; i < 10; i++) {
                    stood[n][i] = x.about(i, 2);
                }
                if (n < 60) {
                    x.down();
                }
            }
            for (int n = 0; n <= 60; n++) {
                for (int i = 0; i < 10; i++) {
                    due(i + ", " + n + " ago", x.ago(n, i), stood[60 - n][i]);
                }
            }
            Model m = modelOf(text);
            PointsThrow fresh = yardOf(text);
            for (int i = 0; i < 10; i++) {
                due(i + ", 1000000 ago", fresh.ago(1000000, i), m.ago(1000000, i));
            }
        }
    }

    private static void agoEdges() {
        sentence("(0 to 1000000), if THE YARD went on alone since.");
        PointsThrow x = yardOf("~012;345");
        due("0 ago", x.ago(0, 0), 0);
        due("ahead of 0 the last stand", x.ago(1, 0), 3);
        due("4 ago", x.ago(4, 0), 0);
        due("1000000 ago", x.ago(1000000, 0), 0);
        due("999999 ago", x.ago(999999, 0), 1);
        due("one that no truck comes to", x.ago(1000000, 1), 0);
        due("none was let down for it", x.count(1), 0);
        x.lever(0, 2);
        x.lever(1, 2);
        due("it counts back from a throw", x.ago(2, 0), 0);
        due("one that is thrown, but not come to", x.ago(2, 1), 2);
        PointsThrow held = yardOf("=012");
        held.lever(0, 1);
        due("a held one stood there", held.ago(1000000, 0), 1);
        // One ago a sent its truck to 0, so b was not come to; two ago it was.
        PointsThrow two = yardOf("b0;12");
        due("b one ago", two.ago(1, 1), 0);
        due("b two ago", two.ago(2, 1), 1);
        due("b three ago", two.ago(3, 1), 1);
    }

    private static void agoRefused() {
        sentence("`int ago(int n, int point)`: AGO. UNKNOWN; STATE: not STRAIGHT; OUTSIDE: n.");
        quiet("0 ago", 1, TruckEdgeTest::tree, x -> x.ago(0, 0));
        quiet("1 ago", 0, TruckEdgeTest::tree, x -> x.ago(1, 0));
        quiet("1000000 ago, the last", 0, () -> yardOf("b;^0"), x -> x.ago(1000000, 1));
        for (int point : NO_SWITCHES) {
            quiet("no switch " + point, UNKNOWN, TruckEdgeTest::tree, x -> x.ago(0, point));
            quiet("ahead of n " + point, UNKNOWN, TruckEdgeTest::tree, x -> x.ago(-1, point));
            quiet("ahead of not straight " + point, UNKNOWN, TruckEdgeTest::notStraight, x -> x.ago(0, point));
            quiet("ahead of both " + point, UNKNOWN, TruckEdgeTest::notStraight, x -> x.ago(-1, point));
        }
        for (int n : new int[] {LEAST, -1, 1000001, MOST}) {
            quiet("n " + n, OUTSIDE, TruckEdgeTest::tree, x -> x.ago(n, 3));
            quiet("not straight ahead of n " + n, STATE, TruckEdgeTest::notStraight, x -> x.ago(n, 3));
        }
        quiet("not straight", STATE, TruckEdgeTest::notStraight, x -> x.ago(0, 0));
        quiet("without a yard no switch is known", UNKNOWN, PointsThrow::new, x -> x.ago(0, 0));
        quiet("without a yard, no n", UNKNOWN, PointsThrow::new, x -> x.ago(-1, 0));
    }
}
