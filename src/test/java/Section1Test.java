/** Section 1 of the document, THE STRING, and what stands ahead of it: a test for each sentence with a boundary. */
public final class Section1Test {
    private static final String TERMS = "terms 5 2 2;";
    private static final String FIRST = "terms 5 2 2;buoy 0 1 9;";

    public static void main(String[] args) {
        calls512();
        none();
        sets();
        twoToTenBuoys();
        numberedFromZero();
        homeInRange();
        homeGreaterThanAhead();
        voteInRange();
        holdInRange();
        offsetInRange();
        trustedAtFirst();
        numbersAtFirst();
        ropeJoins();
        lengthOfRope();
        strengthInRange();
        ropeAtFirst();
        segmentAsLargeAsCanBe();
        eachBuoyInOneSegment();
        termsInRange();
        stockInRange();
        Check.end("Section1Test");
    }

    private static void calls512() {
        Check.edge("What it is", "An object is used for at most 512 calls after it has been made");
        BuoyString x = new BuoyString();
        int answers = 0;
        for (int n = 0; n < 255; n++) {
            answers += x.report(n % 2, n);
            answers += x.endHour();
        }
        Check.due("510 calls", answers, 255);
        Check.due("call 511", x.level(254), 254);
        Check.due("call 512", x.undo(), 7);
    }

    private static void none() {
        Check.edge("The constants", "`NONE = -1`: There is none.");
        Check.due("NONE", BuoyString.NONE, -1);
        Check.due("the SINCE of no hour", new BuoyString().buoy(0, 7), BuoyString.NONE);
        Check.due("the greatest level of none", new BuoyString().extreme(false), BuoyString.NONE);
    }

    private static void sets() {
        Check.edge("Terms", "Sets are told as the sum of 2 to the power of the numbers of their members.");
        BuoyString x = Check.stringOf(10);
        Check.due("the empty set", x.wouldDrift(1, 0, 9) + " " + x.wouldBreak(1, 0, 9), "0 0");
        Check.due("the set of all buoys", x.wouldDrift(10, 0, 9) + " " + x.segmentOf(9), "1023 1023");
        Check.due("the set of all ropes", x.wouldBreak(11, 0, 9), 511);
        Check.due("the set of the last rope alone", x.wouldBreak(11, 8, 9), 256);
        x.storm(11, 8, 9);
        Check.due("the set of the last buoy alone", x.segmentOf(9), 512);
    }

    private static void twoToTenBuoys() {
        Check.edge("Section 1", "There are 2 to 10 buoys");
        Check.loadError(Check.setupOf(0), 5, 12);
        Check.loadError(Check.setupOf(1), 5, 23);
        Check.due("two buoys", Check.stringOf(2).size(0), 2);
        Check.due("ten buoys", Check.stringOf(10).size(0), 10);
        Check.loadError(Check.setupOf(10) + "buoy 10 1 9;", 4, 122);
    }

    private static void numberedFromZero() {
        Check.edge("Section 1", "2 to 10 buoys, numbered from 0 along the string");
        BuoyString ten = Check.stringOf(10);
        Check.due("the first one and the last one", ten.buoy(0, 0) + " " + ten.buoy(9, 0), "0 9");
        Check.refused("buoy(-1, 0)", Check.INDEX, () -> ten.buoy(-1, 0));
        Check.refused("buoy(10, 0)", Check.INDEX, () -> ten.buoy(10, 0));
        BuoyString two = Check.stringOf(2);
        Check.due("the last one of two", two.buoy(1, 0), 1);
        Check.refused("buoy(2, 0) of two", Check.INDEX, () -> two.buoy(2, 0));
    }

    private static void homeInRange() {
        Check.edge("Section 1", "A buoy has a HOME (0 to 9999");
        BuoyString x = Check.loaded(TERMS + "buoy 0 1 9;buoy 9999 1 9;");
        Check.due("the least and the greatest HOME", x.buoy(0, 0) + " " + x.buoy(1, 0), "0 9999");
        Check.loadError(TERMS + "buoy 10000 1 9;buoy 10001 1 9;", 2, 17);
        Check.loadError(FIRST + "buoy 10000 1 9;", 2, 28);
        Check.loadError(TERMS + "buoy -1 1 9;buoy 0 1 9;", 1, 17);
    }

    private static void homeGreaterThanAhead() {
        Check.edge("Section 1", "greater than that of the buoy ahead of it");
        Check.loadError(TERMS + "buoy 7 1 9;buoy 6 1 9;", 3, 28);
        Check.loadError(TERMS + "buoy 7 1 9;buoy 7 1 9;", 3, 28);
        BuoyString x = Check.loaded(TERMS + "buoy 7 1 9;buoy 8 1 9;");
        Check.due("a HOME that is greater by one", x.buoy(0, 0) + " " + x.buoy(1, 0), "7 8");
        Check.loadError(TERMS + "buoy 7 1 9;buoy 9 1 9;buoy 8 1 9;", 3, 39);
    }

    private static void voteInRange() {
        Check.edge("Section 1", "a VOTE (1 to 9)");
        BuoyString x = Check.loaded(TERMS + "buoy 0 1 9;buoy 1 9 9;");
        Check.due("the least and the greatest VOTE", x.buoy(0, 1) + " " + x.buoy(1, 1), "1 9");
        Check.loadError(TERMS + "buoy 0 0 9;buoy 1 1 9;", 2, 19);
        Check.loadError(TERMS + "buoy 0 10 9;buoy 1 1 9;", 2, 19);
        Check.loadError(TERMS + "buoy 0 -1 9;buoy 1 1 9;", 1, 19);
    }

    private static void holdInRange() {
        Check.edge("Section 1", "a HOLD (0 to 99)");
        BuoyString x = Check.loaded(TERMS + "buoy 0 1 0;buoy 1 1 99;");
        Check.due("the least and the greatest HOLD", x.buoy(0, 2) + " " + x.buoy(1, 2), "0 99");
        Check.loadError(TERMS + "buoy 0 1 100;buoy 1 1 9;", 2, 21);
        Check.loadError(TERMS + "buoy 0 1 -1;buoy 1 1 9;", 1, 21);
    }

    private static void offsetInRange() {
        Check.edge("Section 1", "an OFFSET (-99 to 99)");
        BuoyString x = Check.loaded(TERMS + "buoy 0 1 9 -99;buoy 1 1 9 99;buoy 2 1 9 -0;");
        Check.due("the least and the greatest OFFSET", x.buoy(0, 3) + " " + x.buoy(1, 3), "-99 99");
        Check.due("minus 0", x.buoy(2, 3), 0);
        Check.loadError(TERMS + "buoy 0 1 9 100;buoy 1 1 9;", 2, 23);
        Check.loadError(TERMS + "buoy 0 1 9 -100;buoy 1 1 9;", 2, 24);
    }

    private static void trustedAtFirst() {
        Check.edge("Section 1", "It is trusted (at first), suspect or dragged.");
        BuoyString x = Check.stringOf(10);
        Check.due("all of ten", x.size(3) + " " + x.size(4) + " " + x.size(5), "10 0 0");
        Check.due("the states", x.buoy(0, 4) + " " + x.buoy(9, 4), "0 0");
        x.storm(99, 0, 9);
        Check.play(x, "hour 0 5;");
        Check.type(x, Check.setupOf(10));
        x.load();
        Check.due("all of ten that were suspect", x.size(3) + " " + x.size(4) + " " + x.size(5), "10 0 0");
    }

    private static void numbersAtFirst() {
        Check.edge("Section 1", "It has STRIKES, AGREED and SINCE (0, 0 and NONE at first).");
        BuoyString x = Check.stringOf(4);
        x.setTerms(5, 1, 1);
        Check.play(x, "hour 0 0 1 0 2 50;hour 0 0 1 0 3 50;");
        Check.due("STRIKES and SINCE ahead of load()", Check.buoy(x, 2, 5, 7) + " " + Check.buoy(x, 3, 5, 7),
                "1 0 1 1");
        Check.type(x, Check.setupOf(4));
        x.load();
        for (int b = 0; b < 4; b++) {
            Check.due("buoy " + b, Check.buoy(x, b, 4, 5, 6, 7), "0 0 0 -1");
        }
    }

    private static void ropeJoins() {
        Check.edge("Section 1", "Rope k joins the buoys k and k + 1.");
        BuoyString x = Check.stringOf(10);
        x.storm(1, 0, 1);
        x.storm(2, 8, 9);
        Check.due("the first, the second, the last rope", x.rope(0, 2) + " " + x.rope(1, 2) + " " + x.rope(8, 2),
                "1 0 2");
        Check.refused("rope(9, 0) of ten buoys", Check.INDEX, () -> x.rope(9, 0));
        Check.refused("rope(-1, 0)", Check.INDEX, () -> x.rope(-1, 0));
        BuoyString two = Check.stringOf(2);
        Check.due("the only rope of two buoys", two.rope(0, 0), 1);
        Check.refused("rope(1, 0) of two buoys", Check.INDEX, () -> two.rope(1, 0));
    }

    private static void lengthOfRope() {
        Check.edge("Section 1", "Its LENGTH is the HOME of buoy k + 1 less that of buoy k.");
        BuoyString x = Check.loaded(TERMS + "buoy 0 1 9;buoy 1 1 9;buoy 9999 1 9;");
        Check.due("the least LENGTH, and a great one", x.rope(0, 0) + " " + x.rope(1, 0), "1 9998");
        Check.due("the greatest LENGTH", Check.loaded(FIRST + "buoy 9999 1 9;").rope(0, 0), 9999);
        BuoyString ten = Check.stringOf(10);
        Check.due("the last one of nine", ten.rope(8, 0), 1);
    }

    private static void strengthInRange() {
        Check.edge("Section 1", "It has a STRENGTH (1 to 99)");
        BuoyString x = Check.loaded(Check.setupOf(3) + "rope 0 1;rope 1 99;");
        Check.due("the least and the greatest STRENGTH", x.rope(0, 1) + " " + x.rope(1, 1), "1 99");
        Check.loadError(Check.setupOf(3) + "rope 0 0;", 2, 52);
        Check.loadError(Check.setupOf(3) + "rope 0 100;", 2, 52);
    }

    private static void ropeAtFirst() {
        Check.edge("Section 1", "a WEAR (0 at first), and is whole (at first) or broken");
        BuoyString x = Check.stringOf(3);
        x.storm(11, 0, 2);
        Check.due("ropes that break", x.rope(0, 2) + " " + x.rope(0, 3) + " " + x.size(6), "11 1 2");
        Check.type(x, Check.setupOf(3));
        x.load();
        Check.due("rope 0 at first", x.rope(0, 2) + " " + x.rope(0, 3), "0 0");
        Check.due("rope 1 at first", x.rope(1, 2) + " " + x.rope(1, 3) + " " + x.size(6), "0 0 0");
    }

    private static void segmentAsLargeAsCanBe() {
        Check.edge("Section 1", "A segment is a set of buoys that are joined, one with the next one, by whole ropes, "
                + "as large as it can be.");
        BuoyString x = Check.stringOf(10);
        Check.due("all whole", x.segmentOf(0) + " " + x.segmentOf(5) + " " + x.segmentOf(9), "1023 1023 1023");
        x.storm(11, 4, 5);
        Check.due("one broken", x.segmentOf(0) + " " + x.segmentOf(4) + " " + x.segmentOf(5) + " " + x.segmentOf(9),
                "31 31 992 992");
        x.storm(11, 0, 9);
        Check.due("all broken", x.segmentOf(0) + " " + x.segmentOf(4) + " " + x.segmentOf(9), "1 16 512");
    }

    private static void eachBuoyInOneSegment() {
        Check.edge("Section 1", "Each buoy is in one segment.");
        for (int broken = 0; broken < 8; broken++) {
            BuoyString x = Check.stringOf(4);
            for (int k = 0; k < 3; k++) {
                if ((broken >> k & 1) == 1) {
                    x.storm(11, k, k + 1);
                }
            }
            for (int b = 0; b < 4; b++) {
                int want = 1 << b;
                for (int k = b; k < 3 && (broken >> k & 1) == 0; k++) {
                    want |= 1 << k + 1;
                }
                for (int k = b - 1; k >= 0 && (broken >> k & 1) == 0; k--) {
                    want |= 1 << k;
                }
                Check.due("segmentOf(" + b + ") with the broken ropes " + broken, x.segmentOf(b), want);
            }
            Check.due("segments() with the broken ropes " + broken, x.segments(), Integer.bitCount(broken) + 1);
        }
    }

    private static void termsInRange() {
        Check.edge("Section 1", "TOLERANCE (0 to 999), LIMIT (1 to 9) and CALM (1 to 9) are the terms.");
        String buoys = "buoy 0 1 9;buoy 1 1 9;";
        BuoyString least = Check.loaded("terms 0 1 1;" + buoys);
        Check.due("the least terms", least.size(8) + " " + least.size(9) + " " + least.size(10), "0 1 1");
        BuoyString most = Check.loaded("terms 999 9 9;" + buoys);
        Check.due("the greatest terms", most.size(8) + " " + most.size(9) + " " + most.size(10), "999 9 9");
        Check.loadError("terms 1000 1 1;" + buoys, 2, 6);
        Check.loadError("terms -1 1 1;" + buoys, 1, 6);
        Check.loadError("terms 5 0 1;" + buoys, 2, 8);
        Check.loadError("terms 5 10 1;" + buoys, 2, 8);
        Check.loadError("terms 5 1 0;" + buoys, 2, 10);
        Check.loadError("terms 5 1 10;" + buoys, 2, 10);
    }

    private static void stockInRange() {
        Check.edge("Section 1", "STOCK (0 to 99999) is rope that lies ready.");
        Check.due("the least STOCK", Check.loaded(Check.setupOf(2) + "stock 0;").size(7), 0);
        BuoyString x = Check.loaded(Check.setupOf(2) + "stock 99999;");
        Check.due("the greatest STOCK", x.size(7), 99999);
        Check.loadError(Check.setupOf(2) + "stock 100000;", 2, 40);
        Check.due("addStock() to a full STOCK", x.addStock(1) + " " + x.size(7), "-4 99999");
        BuoyString y = Check.loaded(Check.setupOf(2) + "stock 1;");
        y.storm(1, 0, 1);
        Check.due("the last of it", y.remake(0) + " " + y.size(7), "0 0");
        y.storm(1, 0, 1);
        Check.due("nothing is left", y.remake(0) + " " + y.size(7), "-2 0");
    }
}
