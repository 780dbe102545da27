/** Section 3 of the document, STORMS, ROPES AND PLANS: a test for each sentence with a boundary. */
public final class Section3Test {
    // ropes that no single storm breaks
    private static final String STRONG = Check.setupOf(4) + "rope 0 99;rope 1 99;rope 2 99;";

    public static void main(String[] args) {
        forceInRange();
        buoysAreHit();
        ropesBetweenAreHit();
        wearGrows();
        breaksAboveStrength();
        brokenStay();
        segmentsOfNow();
        driftsIfLess();
        withoutHitNoDrift();
        draggedStay();
        becomesSuspect();
        staysSuspect();
        remakeTakesLength();
        wholeWithoutWear();
        bearsIfAtLeast();
        planOfBrokenRopes();
        planNotAboveStock();
        planLeastSum();
        planFewestRopes();
        planLeastNumber();
        planEmpty();
        planNone();
        Check.end("Section3Test");
    }

    private static void forceInRange() {
        Check.edge("Section 3", "A storm has a force (1 to 99)");
        BuoyString x = Check.loaded(STRONG);
        Check.due("the least force", x.storm(1, 0, 3) + " " + x.rope(0, 2), "0 1");
        Check.refused("a force of 0", Check.ARGUMENT, () -> x.storm(0, 0, 3));
        Check.refused("a force of 100", Check.ARGUMENT, () -> x.storm(100, 0, 3));
        Check.refused("a force of -1", Check.ARGUMENT, () -> x.storm(-1, 0, 3));
        Check.due("storms", x.size(11) + " " + x.rope(0, 2), "1 1");
        Check.due("the greatest force", x.storm(99, 0, 3) + " " + x.rope(0, 2) + " " + x.size(6), "15 100 3");
    }

    private static void buoysAreHit() {
        Check.edge("Section 3", "all buoys from the first to the last one are hit");
        BuoyString x = Check.loaded(STRONG);
        // 36 of HOLD against one, two, three, four that are hit
        Check.due("the first one", x.wouldDrift(36, 0, 0) + " " + x.wouldDrift(37, 0, 0), "0 15");
        Check.due("the last one", x.wouldDrift(36, 3, 3) + " " + x.wouldDrift(37, 3, 3), "0 15");
        Check.due("two", x.wouldDrift(18, 1, 2) + " " + x.wouldDrift(19, 1, 2), "0 15");
        Check.due("the first three", x.wouldDrift(12, 0, 2) + " " + x.wouldDrift(13, 0, 2), "0 15");
        Check.due("the last three", x.wouldDrift(12, 1, 3) + " " + x.wouldDrift(13, 1, 3), "0 15");
        Check.due("all", x.wouldDrift(9, 0, 3) + " " + x.wouldDrift(10, 0, 3), "0 15");
    }

    private static String wears(BuoyString x) {
        return x.rope(0, 2) + " " + x.rope(1, 2) + " " + x.rope(2, 2);
    }

    private static void ropesBetweenAreHit() {
        Check.edge("Section 3", "and all ropes between two of them");
        BuoyString x = Check.loaded(STRONG);
        for (int b = 0; b < 4; b++) {
            x.storm(9, b, b);
        }
        Check.due("one buoy, no rope", wears(x), "0 0 0");
        x.storm(1, 1, 2);
        Check.due("two in the middle", wears(x), "0 1 0");
        x.storm(2, 0, 1);
        x.storm(3, 2, 3);
        Check.due("two at each end", wears(x), "2 1 3");
        x.storm(9, 0, 3);
        Check.due("all", wears(x), "11 10 12");
    }

    private static void wearGrows() {
        Check.edge("Section 3", "the WEAR of each whole rope that is hit grows by the force");
        BuoyString x = Check.loaded(STRONG);
        x.storm(1, 0, 2);
        x.storm(98, 0, 2);
        Check.due("WEARs", wears(x) + " " + x.size(6), "99 99 0 0");
        x.storm(99, 0, 3);
        Check.due("the greatest WEAR", wears(x) + " " + x.size(6), "198 198 99 2");
    }

    private static void breaksAboveStrength() {
        Check.edge("Section 3", "it breaks if its WEAR is above its STRENGTH then, and keeps this WEAR");
        BuoyString x = Check.loaded(Check.setupOf(4) + "rope 0 1;rope 1 10;rope 2 99;");
        x.storm(1, 0, 1);
        x.storm(10, 1, 2);
        x.storm(99, 2, 3);
        Check.due("WEARs that are the STRENGTHs", wears(x) + " " + x.size(6), "1 10 99 0");
        x.storm(1, 0, 3);
        Check.due("one above them", wears(x) + " " + x.size(6), "2 11 100 3");
    }

    private static void brokenStay() {
        Check.edge("Section 3", "(ropes that were broken stay as they are)");
        BuoyString x = Check.loaded(STRONG);
        x.setHold(0, 99);
        x.storm(99, 0, 1);
        x.storm(1, 0, 1);
        Check.due("it breaks", wears(x) + " " + x.rope(0, 3), "100 0 0 1");
        x.storm(99, 0, 3);
        Check.due("it stays", wears(x) + " " + x.rope(0, 3), "100 99 99 1");
        Check.due("it does not break again", x.wouldBreak(99, 0, 3), 6);
    }

    private static void segmentsOfNow() {
        Check.edge("Section 3", "Then, with the segments that there are now");
        BuoyString x = Check.loaded(Check.setupOf(2) + "rope 0 19;");
        x.setHold(0, 40);
        x.setHold(1, 0);
        Check.due("as long as the rope holds, nothing drifts", x.wouldDrift(19, 0, 1), 0);
        Check.due("when it breaks, one drifts", x.wouldDrift(20, 0, 1), 2);
        x.setHold(0, 19);
        Check.due("when it breaks, both drift", x.wouldDrift(20, 0, 1), 3);
        Check.due("both drift together", x.wouldDrift(10, 0, 1) + " " + x.wouldDrift(9, 0, 1), "3 0");
    }

    private static void driftsIfLess() {
        Check.edge("Section 3",
                "a segment drifts if the HOLDs of all its buoys are together less than the force times "
                + "the number of its buoys that are hit");
        BuoyString x = Check.loaded(STRONG);
        for (int b = 0; b < 4; b++) {
            x.setHold(b, b);
        }
        Check.due("6 of HOLD, three times 2", x.storm(2, 0, 2), 0);
        Check.due("6 of HOLD, four times 2", x.storm(2, 0, 3), 15);
        Check.due("6 of HOLD, once 6", x.storm(6, 0, 0), 0);
        Check.due("6 of HOLD, once 7", x.storm(7, 0, 0), 15);
        x.setHold(3, 0);
        x.setHold(2, 0);
        x.setHold(1, 0);
        Check.due("no HOLD, once 1", x.storm(1, 3, 3), 15);
        for (int b = 0; b < 4; b++) {
            x.setHold(b, 99);
        }
        Check.due("the greatest HOLD, the greatest force", x.wouldDrift(99, 0, 3), 0);
        x.setHold(0, 98);
        Check.due("one less", x.wouldDrift(99, 0, 3), 1);
    }

    private static void withoutHitNoDrift() {
        Check.edge("Section 3", "(So one without a buoy that is hit does not drift.)");
        BuoyString x = Check.stringOf(4);
        x.storm(11, 1, 2);
        for (int b = 0; b < 4; b++) {
            x.setHold(b, 0);
        }
        Check.due("the other segment has no HOLD", x.storm(1, 0, 1), 3);
        Check.due("the other segment has no HOLD", x.storm(99, 3, 3), 12);
    }

    private static void draggedStay() {
        Check.edge("Section 3", "Each buoy of a segment that drifts, unless it is dragged");
        BuoyString x = Check.loaded(STRONG);
        x.setTerms(5, 1, 9);
        Check.play(x, "hour;hour 0 0 1 0 2 0 3 50;");
        Check.due("it drifts with the others", x.storm(99, 3, 3) + " " + Check.string(x), "15 0S-1S-2S-3D");
        Check.due("it stays", Check.buoy(x, 3, 4, 5, 6, 7), "2 1 0 1");
    }

    private static void becomesSuspect() {
        Check.edge("Section 3", "becomes suspect (or stays so), with STRIKES 0, AGREED 0 and SINCE NONE");
        BuoyString x = Check.loaded(STRONG);
        Check.play(x, "hour 0 0 1 0 2 0 3 50;");
        Check.due("a strike", Check.buoy(x, 3, 4, 5, 6, 7), "0 1 0 0");
        Check.due("a storm that hits buoy 0 alone", x.storm(99, 0, 0), 15);
        for (int b = 0; b < 4; b++) {
            Check.due("buoy " + b, Check.buoy(x, b, 4, 5, 6, 7), "1 0 0 -1");
        }
        x.undo();
        Check.due("one that does not drift", x.storm(9, 0, 3) + " " + Check.buoy(x, 3, 4, 5, 6, 7), "0 0 1 0 0");
    }

    private static void staysSuspect() {
        Check.edge("Section 3", "(or stays so)");
        BuoyString x = Check.stringOf(3);
        x.setTerms(5, 9, 9);
        x.storm(11, 1, 2);
        Check.play(x, "hour 0 0 1 0 2 0;".repeat(3));
        Check.due("AGREED", Check.buoy(x, 2, 4, 6), "1 3");
        x.storm(9, 2, 2);
        Check.due("a storm that it bears", Check.buoy(x, 2, 4, 6), "1 3");
        x.storm(99, 0, 0);
        Check.due("a storm of others", Check.string(x) + " " + x.buoy(2, 6), "0S-1S 2S 3");
        Check.due("it drifts again", x.storm(10, 2, 2) + " " + Check.buoy(x, 2, 4, 5, 6, 7), "4 1 0 0 -1");
    }

    private static void remakeTakesLength() {
        Check.edge("Section 3", "To remake a rope takes its LENGTH from STOCK");
        BuoyString x = Check.loaded("terms 5 2 2;buoy 0 1 9;buoy 7 1 9;buoy 9999 1 9;stock 9999;");
        x.storm(11, 0, 2);
        Check.due("all but 7 of it", x.remake(1) + " " + x.size(16), "7 9992");
        Check.due("the last of it", x.remake(0) + " " + x.size(16), "0 9999");
        BuoyString y = Check.loaded("terms 5 2 2;buoy 0 1 9;buoy 7 1 9;buoy 9999 1 9;stock 9991;");
        y.storm(11, 0, 2);
        Check.due("one too few", y.remake(1) + " " + y.size(7) + " " + y.size(16), "-2 9991 0");
    }

    private static void wholeWithoutWear() {
        Check.edge("Section 3", "it is whole then, with a WEAR of 0");
        BuoyString x = Check.loaded(STRONG + "stock 9;");
        x.storm(99, 0, 1);
        x.storm(99, 0, 2);
        x.remake(0);
        x.remake(1);
        Check.due("a broken one and a worn one", wears(x) + " " + x.size(6) + " " + Check.string(x),
                "0 0 0 0 0S-1S-2S-3S");
        x.storm(99, 0, 1);
        Check.due("it can bear as much again", wears(x) + " " + x.size(6), "99 0 0 0");
    }

    private static void bearsIfAtLeast() {
        Check.edge("Section 3", "A string bears a force if the HOLDs of the buoys of each segment are together at "
                + "least the force times the number of all its buoys.");
        BuoyString x = Check.stringOf(10);
        Check.due("90 of HOLD, ten times 9", x.plan(9) + " " + x.lacks(9), "0 0");
        Check.due("90 of HOLD, ten times 10", x.plan(10) + " " + x.lacks(10), "-1 10");
        x.setHold(9, 8);
        Check.due("89 of HOLD", x.plan(9) + " " + x.lacks(9), "-1 1");
        x.setHold(0, 10);
        Check.due("one has more", x.plan(9) + " " + x.lacks(9), "0 0");
        x.storm(11, 4, 5);
        Check.due("but not in the same segment", x.plan(9) + " " + x.lacks(9), "-1 1");
        for (int b = 0; b < 10; b++) {
            x.setHold(b, 99);
        }
        Check.due("the greatest force", x.plan(99) + " " + x.lacks(99), "0 0");
        x.setHold(5, 98);
        Check.due("one less", x.plan(99) + " " + x.lacks(99), "-1 1");
    }

    /** Three buoys at 0, 3, 5, with all ropes broken: the middle one has no HOLD, the last one 20. */
    private static BuoyString three(int stock) {
        BuoyString x = Check.loaded("terms 5 2 2;buoy 0 1 10;buoy 3 1 0;buoy 5 1 20;stock " + stock + ";");
        x.storm(11, 0, 2);
        Check.due("broken ropes", x.size(6), 2);
        return x;
    }

    private static void planOfBrokenRopes() {
        Check.edge("Section 3",
                "The plan for a force is a set of broken ropes: if they were remade, the string would "
                + "bear the force.");
        Check.due("10 times 2", three(9).plan(10), 2);
        Check.due("11 times 2: buoy 0 lacks 1", three(9).plan(11), -1);
        BuoyString y = Check.loaded("terms 5 2 2;buoy 0 1 10;buoy 3 1 0;buoy 5 1 20;stock 9;rope 0 99;");
        y.storm(11, 0, 2);
        Check.due("rope 0 is whole, though worn", y.plan(6) + " " + y.planLength(6), "2 2");
        Check.due("no rope at all", y.plan(5) + " " + y.planLength(5), "0 0");
    }

    private static void planNotAboveStock() {
        Check.edge("Section 3", "Of all such sets whose LENGTHs are together not above STOCK");
        Check.due("just enough", three(2).plan(10) + " " + three(2).planLength(10), "2 2");
        Check.due("one too few", three(1).plan(10) + " " + three(1).planLength(10), "-1 -1");
        Check.due("no STOCK", three(0).plan(10) + " " + three(0).plan(1), "-1 -1");
        // both ropes are needed: a HOLD of 30 for three
        BuoyString x = three(5);
        x.setHold(0, 5);
        x.setHold(2, 25);
        Check.due("both ropes", x.plan(10) + " " + x.planLength(10), "3 5");
        BuoyString y = three(4);
        y.setHold(0, 5);
        y.setHold(2, 25);
        Check.due("both ropes, one too few", y.plan(10) + " " + y.planLength(10), "-1 -1");
    }

    private static void planLeastSum() {
        Check.edge("Section 3", "it is the one with the least sum of LENGTHs");
        // either rope would do for 5
        Check.due("2, not 3", three(9).plan(5) + " " + three(9).planLength(5), "2 2");
        // one rope of 5, or two of 2 and 2
        BuoyString x = Check.loaded("terms 5 2 2;buoy 0 1 20;buoy 2 1 10;buoy 4 1 0;buoy 9 1 20;stock 99;");
        x.storm(11, 0, 3);
        Check.due("two of 2, not one of 5", x.plan(10) + " " + x.planLength(10), "3 4");
    }

    private static void planFewestRopes() {
        Check.edge("Section 3", "of several the one with the fewest ropes");
        BuoyString x = Check.loaded("terms 5 2 2;buoy 0 1 20;buoy 2 1 10;buoy 4 1 0;buoy 8 1 20;stock 99;");
        x.storm(11, 0, 3);
        Check.due("one of 4, not two of 2", x.plan(10) + " " + x.planLength(10), "4 4");
        Check.due("remakeBy()", x.remakeBy(10) + " " + Check.string(x), "1 0T 1S 2S-3T");
    }

    private static void planLeastNumber() {
        Check.edge("Section 3", "of several the least one as a number");
        BuoyString x = Check.loaded("terms 5 2 2;buoy 0 1 20;buoy 4 1 0;buoy 8 1 20;stock 99;");
        x.storm(11, 0, 2);
        Check.due("either of two", x.plan(10) + " " + x.planLength(10), "1 4");
        // LENGTHs 2, 3, 2, 3: one of the ropes 0 and 1, and one of the ropes 2 and 3
        BuoyString y = Check.loaded("terms 5 2 2;buoy 0 1 30;buoy 2 1 0;buoy 5 1 30;buoy 7 1 0;buoy 10 1 30;stock 99;");
        y.storm(11, 0, 4);
        Check.due("the least sum is ahead of the least number", y.plan(10) + " " + y.planLength(10), "5 4");
        BuoyString z = Check.loaded("terms 5 2 2;buoy 0 1 30;buoy 2 1 0;buoy 4 1 30;buoy 6 1 0;buoy 8 1 30;stock 99;");
        z.storm(11, 0, 4);
        Check.due("all of LENGTH 2: of the sets 5, 6, 9, 10 the least one", z.plan(10) + " " + z.planLength(10),
                "5 4");
        Check.due("90 of HOLD for five: all four", z.plan(18) + " " + z.planLength(18), "15 8");
    }

    private static void planEmpty() {
        Check.edge("Section 3", "It is the empty set if the string bears the force already.");
        BuoyString x = Check.stringOf(3);
        Check.due("with whole ropes", x.plan(9) + " " + x.planLength(9), "0 0");
        x.storm(11, 0, 2);
        Check.due("with broken ropes, and no STOCK", x.plan(9) + " " + x.planLength(9), "0 0");
        x.addStock(9999);
        Check.due("with broken ropes, and STOCK", x.plan(9) + " " + x.planLength(9) + " " + x.remakeBy(9), "0 0 0");
    }

    private static void planNone() {
        Check.edge("Section 3", "There may be no plan.");
        BuoyString x = Check.stringOf(3);
        x.addStock(9999);
        Check.due("all ropes are whole", x.plan(10) + " " + x.planLength(10), "-1 -1");
        x.storm(11, 0, 2);
        Check.due("all ropes would not do", x.plan(10) + " " + x.planLength(10) + " " + x.remakeBy(10), "-1 -1 -3");
    }
}
