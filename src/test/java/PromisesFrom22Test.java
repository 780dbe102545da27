/** Promises 22 to 30, segments, storms and plans that would be: a test for each sentence with a boundary. */
public final class PromisesFrom22Test {
    private static final int LEAST = Integer.MIN_VALUE;
    private static final int MOST = Integer.MAX_VALUE;
    private static final int[] WRONG_FORCES = {0, 100, -1, LEAST, MOST};

    public static void main(String[] args) {
        segmentsAtEachEnd();
        segmentOfBuoy();
        weakestOfSeveral();
        weakestOfNone();
        wouldBreakRopes();
        wouldBreakOutOfRange();
        wouldDriftBuoys();
        wouldDriftOutOfRange();
        wouldChangesNothing();
        leastStormOfAll();
        leastStormOfNone();
        leastStormByBreaking();
        lacksOfSegments();
        lacksOutOfRange();
        planAsSet();
        planOutOfRange();
        planLengthOfPlan();
        planLengthOutOfRange();
        Check.end("PromisesFrom22Test");
    }

    private static void segmentsAtEachEnd() {
        Check.edge("Promise 22", "Returns how many segments there are.");
        BuoyString x = Check.stringOf(10);
        Check.due("no rope is broken", x.segments(), 1);
        x.storm(11, 0, 1);
        Check.due("one is", x.segments(), 2);
        x.storm(11, 0, 9);
        Check.due("all are", x.segments(), 10);
        x.addStock(1);
        x.remake(8);
        Check.due("the last one is remade", x.segments(), 9);
        BuoyString two = Check.stringOf(2);
        Check.due("two buoys", two.segments(), 1);
        two.storm(11, 0, 1);
        Check.due("two buoys, apart", two.segments(), 2);
    }

    private static void segmentOfBuoy() {
        Check.edge("Promise 23",
                "Returns the buoys of its segment, as a set. Throws `IndexOutOfBoundsException` if there "
                + "is no such buoy");
        BuoyString x = Check.stringOf(10);
        x.storm(11, 0, 1);
        x.storm(11, 8, 9);
        Check.due("the first one, the last one", x.segmentOf(0) + " " + x.segmentOf(9), "1 512");
        Check.due("all between", x.segmentOf(1) + " " + x.segmentOf(8), "510 510");
        for (int b : new int[] {-1, 10, 32, LEAST, MOST}) {
            Check.refused("segmentOf(" + b + ")", Check.INDEX, () -> x.segmentOf(b));
        }
        BuoyString two = Check.stringOf(2);
        Check.refused("segmentOf(2) of two", Check.INDEX, () -> two.segmentOf(2));
    }

    private static void weakestOfSeveral() {
        Check.edge("Promise 24", "Returns the whole rope with the least STRENGTH less WEAR, the lowest one of "
                + "several");
        BuoyString x = Check.stringOf(10);
        Check.due("of nine that are equal", x.weakest(), 0);
        x.storm(1, 8, 9);
        Check.due("the last one", x.weakest(), 8);
        x.storm(1, 3, 4);
        Check.due("of two that are equal", x.weakest(), 3);
        x.storm(9, 8, 9);
        Check.due("nothing is left of it, but it is whole", x.weakest() + " " + x.rope(8, 3), "8 0");
        x.storm(1, 8, 9);
        Check.due("it is broken", x.weakest() + " " + x.rope(8, 3), "3 1");
        BuoyString y = Check.loaded(Check.setupOf(3) + "rope 0 99;rope 1 98;");
        Check.due("by STRENGTH", y.weakest(), 1);
        y.storm(2, 0, 1);
        Check.due("by STRENGTH less WEAR", y.weakest(), 0);
    }

    private static void weakestOfNone() {
        Check.edge("Promise 24", "NONE if all ropes are broken");
        BuoyString x = Check.stringOf(10);
        x.storm(99, 0, 8);
        Check.due("all but the last one", x.weakest(), 8);
        x.storm(99, 8, 9);
        Check.due("all", x.weakest(), -1);
        x.undo();
        Check.due("undone", x.weakest(), 8);
    }

    private static void wouldBreakRopes() {
        Check.edge("Promise 25", "Returns the ropes that would break by such a storm, as a set.");
        BuoyString x = Check.stringOf(10);
        Check.due("none, all", x.wouldBreak(10, 0, 9) + " " + x.wouldBreak(11, 0, 9), "0 511");
        Check.due("one buoy", x.wouldBreak(99, 0, 0) + " " + x.wouldBreak(99, 9, 9), "0 0");
        Check.due("the first rope, the last one", x.wouldBreak(11, 0, 1) + " " + x.wouldBreak(11, 8, 9), "1 256");
        x.storm(10, 0, 1);
        Check.due("worn as far as can be", x.wouldBreak(1, 0, 9), 1);
        x.storm(1, 0, 1);
        Check.due("a broken one does not break", x.wouldBreak(1, 0, 9) + " " + x.wouldBreak(99, 0, 9), "0 510");
    }

    private static void wouldBreakOutOfRange() {
        Check.edge("Promise 25",
                "Throws `IndexOutOfBoundsException` if there is no such buoy; `IllegalArgumentException` "
                + "if force is not 1 to 99 or last is less than first");
        BuoyString x = Check.stringOf(4);
        Check.due("the least and the greatest force", x.wouldBreak(1, 0, 3) + " " + x.wouldBreak(99, 0, 3), "0 7");
        for (int f : WRONG_FORCES) {
            Check.refused("wouldBreak(" + f + ", 0, 3)", Check.ARGUMENT, () -> x.wouldBreak(f, 0, 3));
        }
        Check.refused("wouldBreak(1, 1, 0)", Check.ARGUMENT, () -> x.wouldBreak(1, 1, 0));
        Check.refused("wouldBreak(1, 3, 2)", Check.ARGUMENT, () -> x.wouldBreak(1, 3, 2));
        for (int b : new int[] {-1, 4, LEAST, MOST}) {
            Check.refused("wouldBreak(1, " + b + ", 3)", Check.INDEX, () -> x.wouldBreak(1, b, 3));
            Check.refused("wouldBreak(1, 0, " + b + ")", Check.INDEX, () -> x.wouldBreak(1, 0, b));
            Check.refused("wouldBreak(0, 3, " + b + ")", Check.INDEX, () -> x.wouldBreak(0, 3, b));
        }
    }

    private static void wouldDriftBuoys() {
        Check.edge("Promise 26",
                "Returns all buoys of the segments that would drift by such a storm (dragged ones, too), "
                + "as a set.");
        BuoyString x = Check.usedString();
        // the HOLD of 0 to 2 is 27, that of buoy 3, which is dragged, is 9
        Check.due("none", x.wouldDrift(9, 0, 3), 0);
        Check.due("all", x.wouldDrift(10, 0, 3), 15);
        Check.due("a dragged one", x.wouldDrift(10, 3, 3), 8);
        Check.due("the others", x.wouldDrift(27, 0, 0) + " " + x.wouldDrift(28, 0, 0), "0 7");
        BuoyString ten = Check.stringOf(10);
        Check.due("none of ten, all of ten", ten.wouldDrift(9, 0, 9) + " " + ten.wouldDrift(10, 0, 9), "0 1023");
        ten.setHold(0, 99);
        Check.due("ropes break: the first one does not drift", ten.wouldDrift(19, 0, 9), 1022);
        Check.due("the storm is like it", ten.storm(19, 0, 9), 1022);
    }

    private static void wouldDriftOutOfRange() {
        Check.edge("Promise 26",
                "Throws `IndexOutOfBoundsException` if there is no such buoy; `IllegalArgumentException` "
                + "if force is not 1 to 99 or last is less than first");
        BuoyString x = Check.stringOf(4);
        Check.due("the least and the greatest force", x.wouldDrift(1, 0, 3) + " " + x.wouldDrift(99, 0, 3), "0 15");
        for (int f : WRONG_FORCES) {
            Check.refused("wouldDrift(" + f + ", 0, 3)", Check.ARGUMENT, () -> x.wouldDrift(f, 0, 3));
        }
        Check.refused("wouldDrift(1, 1, 0)", Check.ARGUMENT, () -> x.wouldDrift(1, 1, 0));
        Check.refused("wouldDrift(1, 3, 2)", Check.ARGUMENT, () -> x.wouldDrift(1, 3, 2));
        for (int b : new int[] {-1, 4, LEAST, MOST}) {
            Check.refused("wouldDrift(1, " + b + ", 3)", Check.INDEX, () -> x.wouldDrift(1, b, 3));
            Check.refused("wouldDrift(1, 0, " + b + ")", Check.INDEX, () -> x.wouldDrift(1, 0, b));
            Check.refused("wouldDrift(0, 3, " + b + ")", Check.INDEX, () -> x.wouldDrift(0, 3, b));
        }
    }

    private static void wouldChangesNothing() {
        Check.edge("The public face", "what would be; nothing changes");
        BuoyString x = Check.usedString();
        String before = Check.everything(x);
        x.levelNow();
        x.levelWithout(0, 3);
        x.needed(0);
        x.segments();
        x.segmentOf(0);
        x.weakest();
        x.wouldBreak(99, 0, 3);
        x.wouldDrift(99, 0, 3);
        x.leastStorm();
        x.lacks(99);
        x.plan(10);
        x.planLength(10);
        Check.due("everything", Check.everything(x), before);
    }

    private static void leastStormOfAll() {
        Check.edge("Promise 27", "Returns the least force of a storm that hits all buoys by which a segment would "
                + "drift");
        BuoyString x = Check.stringOf(10);
        Check.due("90 of HOLD for ten", x.leastStorm(), 10);
        x.setHold(9, 8);
        Check.due("89 of HOLD", x.leastStorm(), 9);
        for (int b = 0; b < 10; b++) {
            x.setHold(b, 0);
        }
        Check.due("the least one", x.leastStorm(), 1);
        BuoyString y = Check.loaded("terms 5 2 2;buoy 0 1 99;buoy 1 1 98;rope 0 99;");
        Check.due("the greatest one", y.leastStorm(), 99);
    }

    private static void leastStormOfNone() {
        Check.edge("Promise 27", "NONE if there is none from 1 to 99");
        BuoyString x = Check.loaded("terms 5 2 2;buoy 0 1 99;buoy 1 1 99;");
        Check.due("none", x.leastStorm(), -1);
        x.storm(99, 0, 1);
        Check.due("none, with a broken rope", x.leastStorm(), -1);
        x.setHold(1, 98);
        Check.due("99", x.leastStorm(), 99);
    }

    private static void leastStormByBreaking() {
        Check.edge("Promise 27", "by which a segment would drift");
        BuoyString x = Check.loaded("terms 5 2 2;buoy 0 1 99;buoy 1 1 20;rope 0 30;");
        Check.due("the rope holds up to 30", x.leastStorm(), 31);
        x.storm(9, 0, 1);
        Check.due("up to 21", x.leastStorm(), 22);
        x.storm(1, 0, 1);
        x.storm(1, 0, 1);
        Check.due("up to 19, but 20 is borne", x.leastStorm(), 21);
        x.storm(20, 0, 1);
        Check.due("it is broken", x.leastStorm() + " " + x.size(6), "21 1");
        x.setHold(0, 0);
        Check.due("the other one", x.leastStorm(), 1);
    }

    private static void lacksOfSegments() {
        Check.edge("Promise 28",
                "for each segment the force times the number of its buoys less the HOLDs of its buoys, if "
                + "this is above 0, added up");
        BuoyString x = Check.stringOf(4);
        Check.due("36 of HOLD for four", x.lacks(8) + " " + x.lacks(9) + " " + x.lacks(10), "0 0 4");
        x.setHold(0, 99);
        Check.due("126 of HOLD for four", x.lacks(31) + " " + x.lacks(32), "0 2");
        x.storm(11, 0, 1);
        Check.due("what one has too much is of no use to the other", x.lacks(9) + " " + x.lacks(10), "0 3");
        Check.due("both lack something", x.lacks(99), 297 - 27);
        x.setHold(0, 98);
        Check.due("one more", x.lacks(99), 297 - 27 + 1);
        BuoyString ten = Check.stringOf(10);
        for (int b = 0; b < 10; b++) {
            ten.setHold(b, 0);
        }
        Check.due("the least and the greatest lack of ten", ten.lacks(1) + " " + ten.lacks(99), "10 990");
        ten.storm(99, 0, 9);
        Check.due("with all ropes broken", ten.lacks(1) + " " + ten.lacks(99), "10 990");
    }

    private static void lacksOutOfRange() {
        Check.edge("Promise 28", "Throws `IllegalArgumentException` if force is not 1 to 99");
        BuoyString x = Check.stringOf(2);
        Check.due("the least and the greatest", x.lacks(1) + " " + x.lacks(99), "0 180");
        for (int f : WRONG_FORCES) {
            Check.refused("lacks(" + f + ")", Check.ARGUMENT, () -> x.lacks(f));
        }
    }

    private static void planAsSet() {
        Check.edge("Promise 29", "Returns the plan for it, as a set of ropes; NONE if there is no plan.");
        BuoyString x = Check.stringOf(10);
        Check.due("the empty set, and none", x.plan(9) + " " + x.plan(10), "0 -1");
        x.storm(11, 0, 9);
        for (int b = 0; b < 10; b++) {
            x.setHold(b, b < 9 ? 0 : 99);
        }
        Check.due("no STOCK", x.plan(1), -1);
        x.addStock(8);
        Check.due("one too few", x.plan(1), -1);
        x.addStock(1);
        Check.due("all nine ropes", x.plan(1) + " " + x.plan(9) + " " + x.plan(10), "511 511 -1");
        for (int b = 0; b < 10; b++) {
            x.setHold(b, b == 8 ? 9 : 10);
        }
        Check.due("either of the ropes 7 and 8", x.plan(10), -1);
        x.setHold(9, 11);
        Check.due("the last rope alone", x.plan(10), 256);
        x.setHold(7, 11);
        Check.due("the lower one", x.plan(10), 128);
    }

    private static void planOutOfRange() {
        Check.edge("Promise 29", "Throws `IllegalArgumentException` if force is not 1 to 99");
        BuoyString x = Check.loaded("terms 5 2 2;buoy 0 1 99;buoy 1 1 99;");
        Check.due("the least and the greatest", x.plan(1) + " " + x.plan(99), "0 0");
        for (int f : WRONG_FORCES) {
            Check.refused("plan(" + f + ")", Check.ARGUMENT, () -> x.plan(f));
        }
    }

    private static void planLengthOfPlan() {
        Check.edge("Promise 30", "Returns the sum of the LENGTHs of the ropes of the plan for it; NONE if there "
                + "is no plan.");
        BuoyString x = Check.loaded("terms 5 2 2;buoy 0 1 0;buoy 1 1 20;buoy 9999 1 0;stock 9998;");
        Check.due("whole ropes", x.planLength(6) + " " + x.planLength(7), "0 -1");
        x.storm(11, 0, 2);
        Check.due("one too few", x.planLength(6), -1);
        x.addStock(1);
        Check.due("all of it", x.planLength(6) + " " + x.plan(6), "9999 3");
        Check.due("no plan", x.planLength(7), -1);
        x.setHold(2, 6);
        Check.due("one rope", x.planLength(6) + " " + x.plan(6), "1 1");
        x.setHold(0, 6);
        Check.due("no rope", x.planLength(6) + " " + x.plan(6), "0 0");
    }

    private static void planLengthOutOfRange() {
        Check.edge("Promise 30", "Throws `IllegalArgumentException` if force is not 1 to 99");
        BuoyString x = Check.loaded("terms 5 2 2;buoy 0 1 99;buoy 1 1 99;");
        Check.due("the least and the greatest", x.planLength(1) + " " + x.planLength(99), "0 0");
        for (int f : WRONG_FORCES) {
            Check.refused("planLength(" + f + ")", Check.ARGUMENT, () -> x.planLength(f));
        }
    }
}
