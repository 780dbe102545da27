/** Promises 22 to 30 and 33 to 35: segments, storms, ropes and plans. */
public final class StormsTest {
    private static final int[] WRONG_FORCES = {0, 100, -1, Integer.MAX_VALUE, Integer.MIN_VALUE};

    public static void main(String[] args) {
        segments();
        weakest();
        breaks();
        drifts();
        drifters();
        leastStorm();
        lacks();
        plans();
        planTies();
        planIsAnAct();
        remake();
        wrongStorms();
        Check.end("StormsTest");
    }

    /** Buoys with these homes, HOLD 50 each; the ropes of the set are broken by it. */
    private static BuoyString broken(String homes, int stock, int ropes) {
        StringBuilder s = new StringBuilder("terms 5 2 2;");
        String[] each = homes.split(" ");
        for (String home : each) {
            s.append("buoy ").append(home).append(" 1 99;");
        }
        for (int k = 0; k + 1 < each.length; k++) {
            if ((ropes >> k & 1) == 1) {
                s.append("rope ").append(k).append(" 1;");
            }
        }
        BuoyString x = Check.loaded(s + "stock " + stock + ";");
        for (int k = 0; k + 1 < each.length; k++) {
            if ((ropes >> k & 1) == 1) {
                x.storm(2, k, k + 1);
            }
        }
        Check.due("broken ropes", x.size(6), Integer.bitCount(ropes));
        return x;
    }

    private static void holds(BuoyString x, int... holds) {
        for (int b = 0; b < holds.length; b++) {
            x.setHold(b, holds[b]);
        }
    }

    private static void segments() {
        BuoyString x = broken("0 1 2 3 4 5 6 7 8 9", 0, 0);
        Check.due("one segment", x.segments() + " " + x.segmentOf(0) + " " + x.segmentOf(9), "1 1023 1023");
        BuoyString y = broken("0 1 2 3 4 5 6 7 8 9", 0, 0b100001100);
        Check.due("segments", y.segments(), 4);
        Check.due("segments of", y.segmentOf(0) + " " + y.segmentOf(2) + " " + y.segmentOf(3) + " " + y.segmentOf(4)
                + " " + y.segmentOf(8) + " " + y.segmentOf(9), "7 7 8 496 496 512");
        for (int b : new int[] {-1, 10, 32, Integer.MAX_VALUE, Integer.MIN_VALUE}) {
            Check.refused("segmentOf(" + b + ")", Check.INDEX, () -> y.segmentOf(b));
        }
        BuoyString z = broken("0 1 2 3 4 5 6 7 8 9", 0, 511);
        Check.due("ten segments", z.segments() + " " + z.segmentOf(5), "10 32");
        Check.due("writeString()", Check.string(z), "0T 1T 2T 3T 4T 5T 6T 7T 8T 9T");
    }

    private static void weakest() {
        BuoyString x = Check.loaded("terms 5 2 2;buoy 0 1 99;buoy 1 1 99;buoy 2 1 99;buoy 3 1 99;rope 1 7;rope 2 7;");
        Check.due("the lowest one of several", x.weakest(), 1);
        x.storm(4, 0, 1);
        Check.due("STRENGTH less WEAR", x.weakest(), 0);
        x.storm(7, 2, 3);
        Check.due("nothing is left", x.weakest(), 2);
        x.storm(1, 2, 3);
        Check.due("a broken one does not count", x.weakest(), 0);
        x.storm(99, 0, 3);
        Check.due("all are broken", x.weakest(), -1);
    }

    private static void breaks() {
        BuoyString x = Check.loaded("terms 5 2 2;buoy 0 1 99;buoy 1 1 99;buoy 2 1 99;buoy 3 1 99;rope 1 7;rope 2 5;");
        String before = Check.everything(x);
        Check.due("wouldBreak(5, all)", x.wouldBreak(5, 0, 3), 0);
        Check.due("wouldBreak(6, all)", x.wouldBreak(6, 0, 3), 4);
        Check.due("wouldBreak(8, all)", x.wouldBreak(8, 0, 3), 6);
        Check.due("wouldBreak(11, all)", x.wouldBreak(11, 0, 3), 7);
        Check.due("a rope needs both buoys", x.wouldBreak(99, 1, 2) + " " + x.wouldBreak(99, 1, 1) + " "
                + x.wouldBreak(99, 2, 3) + " " + x.wouldBreak(99, 0, 2), "2 0 4 3");
        Check.due("nothing changes", Check.everything(x), before);
        x.storm(5, 0, 2);
        Check.due("wear counts", x.wouldBreak(3, 0, 3) + " " + x.wouldBreak(2, 0, 3), "2 0");
        x.storm(6, 2, 3);
        Check.due("a broken one does not break again", x.wouldBreak(99, 0, 3), 3);
        Check.due("wears", x.rope(0, 2) + " " + x.rope(1, 2) + " " + x.rope(2, 2), "5 5 6");
        x.storm(6, 0, 3);
        Check.due("wears", x.rope(0, 2) + " " + x.rope(1, 2) + " " + x.rope(2, 2), "11 11 6");
        Check.due("broken", x.rope(0, 3) + " " + x.rope(1, 3) + " " + x.rope(2, 3) + " " + x.size(11), "1 1 1 3");
    }

    private static void drifts() {
        BuoyString x = Check.loaded("terms 5 2 2;buoy 0 1 10;buoy 1 1 20;buoy 2 1 0;buoy 3 1 5;rope 1 8;");
        String before = Check.everything(x);
        Check.due("wouldDrift(8, all)", x.wouldDrift(8, 0, 3), 0);
        // 35 of HOLD against 9 times 4, but rope 1 breaks: 30 against 18, and 5 against 18
        Check.due("wouldDrift(9, all)", x.wouldDrift(9, 0, 3), 12);
        Check.due("wouldDrift(17, one)", x.wouldDrift(35, 1, 1) + " " + x.wouldDrift(36, 1, 1), "0 15");
        Check.due("one without a hit", x.wouldDrift(99, 2, 3), 15);
        Check.due("rope 1 breaks", x.wouldDrift(9, 1, 2), 12);
        Check.due("nothing changes", Check.everything(x), before);
        Check.due("storm(9, 1, 2)", x.storm(9, 1, 2), 12);
        Check.due("the string", Check.string(x), "0T-1T 2S-3S");
        Check.due("the first part alone", x.wouldDrift(10, 0, 1) + " " + x.wouldDrift(11, 0, 1), "0 1");
        Check.due("it holds 30", x.wouldDrift(30, 0, 0) + " " + x.wouldDrift(31, 0, 0) + " " + x.wouldDrift(31, 1, 1), "0 3 3");
        Check.due("two buoys with no hit do not drift", x.wouldDrift(99, 0, 0), 3);
        Check.due("a HOLD of 0", x.wouldDrift(1, 2, 2) + " " + x.wouldDrift(5, 2, 2) + " " + x.wouldDrift(6, 2, 2), "0 0 12");
    }

    private static void drifters() {
        BuoyString x = Check.loaded("terms 5 1 3;buoy 0 1 9;buoy 1 1 9;buoy 2 1 9;buoy 3 1 9;rope 2 99;rope 1 99;rope 0 99;");
        Check.play(x, "hour 0 0 1 0 2 0 3 50;");
        x.setTerms(5, 9, 3);
        Check.play(x, "hour 0 0 1 0 2 50;");
        Check.due("strikes", x.buoy(2, 5) + " " + x.buoy(2, 7) + " " + x.buoy(3, 5) + " " + x.buoy(3, 7), "1 1 1 0");
        Check.due("storm() of all", x.storm(10, 0, 3), 15);
        Check.due("dragged ones stay", Check.string(x), "0S-1S-2S-3D");
        Check.due("strikes", x.buoy(2, 5) + " " + x.buoy(2, 7) + " " + x.buoy(3, 5) + " " + x.buoy(3, 7), "0 -1 1 0");
        x.haul(3);
        x.undo();
        x.undo();
        x.storm(90, 1, 1);
        Check.due("a suspect one", Check.string(x), "0S-1S-2S-3D");
        BuoyString y = Check.loaded("terms 5 1 3;buoy 0 1 99;buoy 1 1 99;buoy 2 1 0;rope 1 1;");
        y.storm(2, 1, 2);
        Check.play(y, "hour 0 0 1 0 2 0;hour 0 0 1 0 2 0;");
        Check.due("it agreed twice", y.buoy(2, 6), 2);
        y.storm(1, 0, 1);
        Check.due("it is not hit", y.buoy(2, 6), 2);
        y.storm(1, 2, 2);
        Check.due("it drifts again", y.buoy(2, 6) + " " + y.buoy(2, 4), "0 1");
        Check.due("a storm that does nothing is an act", y.storm(1, 0, 0) + " " + y.size(12) + " " + y.size(11), "0 8 4");
    }

    private static void leastStorm() {
        BuoyString x = Check.loaded("terms 5 2 2;buoy 0 1 30;buoy 1 1 20;buoy 2 1 15;rope 1 17;rope 0 99;");
        // 65 of HOLD for 3; from 18 on rope 1 breaks, and buoy 2 alone holds 15
        Check.due("leastStorm()", x.leastStorm(), 18);
        x.setHold(0, 0);
        Check.due("leastStorm() of the whole string", x.leastStorm(), 12);
        BuoyString y = Check.loaded("terms 5 2 2;buoy 0 1 99;buoy 1 1 99;");
        Check.due("none from 1 to 99", y.leastStorm(), -1);
        y.setHold(1, 98);
        Check.due("99", y.leastStorm(), 99);
        y.setHold(1, 0);
        Check.due("when the rope breaks", y.leastStorm(), 11);
        y.storm(99, 0, 1);
        Check.due("1", y.leastStorm(), 1);
        Check.due("nothing changes", y.size(11), 1);
    }

    private static void lacks() {
        BuoyString x = broken("0 1 2 3 4", 0, 0b0010);
        holds(x, 5, 15, 20, 0, 1);
        Check.due("lacks()", x.lacks(1) + " " + x.lacks(7) + " " + x.lacks(8) + " " + x.lacks(10) + " " + x.lacks(11)
                + " " + x.lacks(99), "0 0 3 9 " + (2 + 12) + " " + (178 + 276));
        for (int f : WRONG_FORCES) {
            Check.refused("lacks(" + f + ")", Check.ARGUMENT, () -> x.lacks(f));
            Check.refused("plan(" + f + ")", Check.ARGUMENT, () -> x.plan(f));
            Check.refused("planLength(" + f + ")", Check.ARGUMENT, () -> x.planLength(f));
            Check.refused("remakeBy(" + f + ")", Check.ARGUMENT, () -> x.remakeBy(f));
        }
    }

    private static void plan(BuoyString x, int force, int want, int length) {
        String before = Check.everything(x);
        Check.due("plan(" + force + ")", x.plan(force) + " " + x.planLength(force), want + " " + length);
        Check.due("nothing changes", Check.everything(x), before);
    }

    private static void plans() {
        // lengths 5, 20, 10, 7
        BuoyString x = broken("0 5 25 35 42", 42, 0b1111);
        holds(x, 30, 0, 20, 0, 10);
        plan(x, 1, 9, 12);
        plan(x, 5, 9, 12);
        plan(x, 6, 5, 15);
        plan(x, 10, 5, 15);
        plan(x, 11, 15, 42);
        plan(x, 12, 15, 42);
        plan(x, 13, -1, -1);
        plan(x, 99, -1, -1);
        BuoyString y = broken("0 5 25 35 42", 41, 0b1111);
        holds(y, 30, 0, 20, 0, 10);
        plan(y, 10, 5, 15);
        plan(y, 11, -1, -1);
        // whole ropes are no part of it, and cost nothing
        BuoyString z = broken("0 5 25 35 42", 25, 0b0101);
        holds(z, 30, 0, 20, 0, 10);
        plan(z, 5, 0, 0);
        plan(z, 6, 4, 10);
        plan(z, 10, 5, 15);
        plan(z, 11, 5, 15);
        plan(z, 13, -1, -1);
        holds(z, 30, 10, 20, 10, 10);
        plan(z, 10, 0, 0);
        plan(z, 13, 5, 15);
        BuoyString none = broken("0 5 25", 0, 0);
        plan(none, 99, 0, 0);
        none.setHold(1, 98);
        plan(none, 99, -1, -1);
    }

    private static void planTies() {
        // buoy 2 needs one of two ropes of the same length: the least number
        BuoyString x = broken("0 9 19 29 39", 999, 0b1111);
        holds(x, 9, 19, 0, 19, 9);
        plan(x, 9, 2, 10);
        // the shorter one wins over the lower one
        BuoyString y = broken("0 9 20 30 39", 999, 0b1111);
        holds(y, 9, 19, 0, 19, 9);
        plan(y, 9, 4, 10);
        BuoyString z = broken("0 1 2 4 6", 999, 0b1111);
        holds(z, 30, 0, 10, 0, 30);
        // buoy 1 needs rope 0 (1) or rope 1 (1), buoy 3 needs rope 2 (2) or rope 3 (2)
        plan(z, 5, 5, 3);
        // one rope of 4, or two of 2 and 2 with a lesser number: the fewest ropes
        BuoyString w = broken("0 2 4 8", 999, 0b111);
        holds(w, 20, 10, 0, 20);
        plan(w, 10, 4, 4);
        // one rope of 5, or two of 2 and 2: the least sum
        BuoyString v = broken("0 2 4 9", 999, 0b111);
        holds(v, 20, 10, 0, 20);
        plan(v, 10, 3, 4);
    }

    private static void planIsAnAct() {
        BuoyString x = broken("0 5 25 35 42", 30, 0b1111);
        holds(x, 30, 0, 20, 0, 10);
        Check.due("no plan", x.remakeBy(11), -3);
        Check.due("its account", x.account(3) + " " + x.size(7), "1 30");
        Check.due("two ropes", x.remakeBy(10), 2);
        Check.due("the string", Check.string(x), "0T-1T 2T-3T 4T");
        Check.due("rope", x.size(7) + " " + x.size(16) + " " + x.size(15) + " " + x.size(6), "15 15 30 2");
        Check.due("they are new", x.rope(0, 2) + " " + x.rope(1, 2) + " " + x.rope(2, 2) + " " + x.rope(3, 2), "0 2 0 2");
        int acts = x.account(0);
        x.storm(1, 2, 3);
        Check.due("nothing to do", x.remakeBy(10), 0);
        Check.due("it is an act, too", x.account(0), acts + 2);
        Check.due("a worn rope stays worn", x.rope(2, 2), 1);
        x.undo();
        x.undo();
        x.undo();
        Check.due("undo()", x.size(7) + " " + x.size(16) + " " + x.size(6) + " " + x.rope(0, 2), "30 0 4 2");
    }

    private static void remake() {
        BuoyString x = Check.loaded("terms 5 2 2;buoy 0 1 99;buoy 7 1 99;buoy 20 1 99;stock 20;");
        Check.due("a whole rope without wear", x.remake(0) + " " + x.account(1), "-1 1");
        x.storm(11, 0, 1);
        x.storm(3, 1, 2);
        Check.due("a broken rope", x.remake(0), 13);
        Check.due("it is whole and new", x.rope(0, 2) + " " + x.rope(0, 3), "0 0");
        Check.due("a worn rope, with the last of the rope", x.remake(1), 0);
        Check.due("it is new", x.rope(1, 2) + " " + x.rope(1, 3) + " " + x.size(16), "0 0 20");
        Check.due("not worn any more comes first", x.remake(1) + " " + x.account(1) + " " + x.account(2), "-1 2 0");
        x.storm(1, 0, 2);
        Check.due("too little rope", x.remake(0) + " " + x.account(2), "-2 1");
        x.addStock(6);
        Check.due("still too little", x.remake(0) + " " + x.rope(0, 2), "-2 1");
        x.addStock(1);
        Check.due("just enough", x.remake(0) + " " + x.size(16) + " " + x.size(15), "0 27 27");
        for (int k : new int[] {-1, 2, Integer.MAX_VALUE, Integer.MIN_VALUE}) {
            Check.refused("remake(" + k + ")", Check.INDEX, () -> x.remake(k));
        }
        Check.due("accounts", x.account(1) + " " + x.account(2), "2 2");
    }

    private static void wrongStorms() {
        BuoyString x = Check.loaded("terms 5 2 2;buoy 0 1 9;buoy 7 1 9;buoy 20 1 9;");
        String before = Check.everything(x);
        int[][] buoys = {{-1, 0}, {0, 3}, {3, 3}, {0, -1}, {3, 0}, {Integer.MIN_VALUE, Integer.MAX_VALUE}};
        for (int[] b : buoys) {
            for (int force : new int[] {1, 0, 100}) {
                String call = "(" + force + ", " + b[0] + ", " + b[1] + ")";
                Check.refused("storm" + call, Check.INDEX, () -> x.storm(force, b[0], b[1]));
                Check.refused("wouldBreak" + call, Check.INDEX, () -> x.wouldBreak(force, b[0], b[1]));
                Check.refused("wouldDrift" + call, Check.INDEX, () -> x.wouldDrift(force, b[0], b[1]));
            }
        }
        for (int f : WRONG_FORCES) {
            Check.refused("storm(" + f + ", 0, 1)", Check.ARGUMENT, () -> x.storm(f, 0, 1));
            Check.refused("wouldBreak(" + f + ", 0, 1)", Check.ARGUMENT, () -> x.wouldBreak(f, 0, 1));
            Check.refused("wouldDrift(" + f + ", 0, 1)", Check.ARGUMENT, () -> x.wouldDrift(f, 0, 1));
        }
        Check.refused("storm(5, 1, 0)", Check.ARGUMENT, () -> x.storm(5, 1, 0));
        Check.refused("wouldBreak(5, 2, 1)", Check.ARGUMENT, () -> x.wouldBreak(5, 2, 1));
        Check.refused("wouldDrift(5, 2, 0)", Check.ARGUMENT, () -> x.wouldDrift(5, 2, 0));
        Check.due("nothing changes", Check.everything(x), before);
    }
}
