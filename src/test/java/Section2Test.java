/** Section 2 of the document, HOURS, but for (4), (5) and (7): a test for each sentence with a boundary. */
public final class Section2Test {
    public static void main(String[] args) {
        numberedFromZero();
        oneHourRuns();
        reportInRange();
        laterReportReplaces();
        allCanReport();
        valueIsReportLessOffset();
        votersAreTrustedThatReported();
        middleWithHalfOfTheVotes();
        middleIsLeastValue();
        middleCountsEqualValues();
        supportersWithinTolerance();
        leastAndGreatestTolerance();
        withoutVoters();
        levelWithMoreThanHalf();
        levelByVotes();
        roundedDown();
        hourIsKept();
        latest24();
        allOf24();
        nextHourRuns();
        Check.end("Section2Test");
    }

    private static void numberedFromZero() {
        Check.edge("Section 2", "Hours are numbered from 0.");
        BuoyString x = Check.stringOf(2);
        Check.due("the hour that runs at first", x.size(1), 0);
        Check.refused("hour 0 has not ended", Check.INDEX, () -> x.hour(0, 0));
        Check.play(x, "hour 0 7;");
        Check.due("hour 0", x.level(0) + " " + x.size(1), "7 1");
        Check.refused("hour -1", Check.INDEX, () -> x.hour(-1, 0));
        Check.refused("hour 1 has not ended", Check.INDEX, () -> x.hour(1, 0));
    }

    private static void oneHourRuns() {
        Check.edge("Section 2", "One hour runs; reports belong to it.");
        BuoyString x = Check.stringOf(2);
        x.report(0, 7);
        x.endHour();
        x.report(1, 8);
        Check.due("the hour that runs", x.buoy(0, 8) + " " + x.buoy(1, 8), "0 1");
        Check.due("the hour that ended", Check.told(x, 0), "1 1 1 1 0 7");
        x.endHour();
        Check.due("the next one", Check.told(x, 1), "2 2 1 1 0 8");
    }

    private static void reportInRange() {
        Check.edge("Section 2", "A report is a number from -9999 to 9999 of a buoy");
        BuoyString x = Check.stringOf(2);
        Check.due("the least and the greatest report", x.report(0, -9999) + " " + x.report(1, 9999), "1 2");
        Check.refused("report(0, -10000)", Check.ARGUMENT, () -> x.report(0, -10000));
        Check.refused("report(1, 10000)", Check.ARGUMENT, () -> x.report(1, 10000));
        Check.due("the reports", x.buoy(0, 9) + " " + x.buoy(1, 9), "-9999 9999");
    }

    private static void laterReportReplaces() {
        Check.edge("Section 2", "a later report of this buoy in the same hour replaces it");
        BuoyString x = Check.stringOf(2);
        x.report(0, 7);
        x.report(0, 9);
        Check.due("the third report", x.report(0, -3), 1);
        Check.due("the report", x.buoy(0, 8) + " " + x.buoy(0, 9), "1 -3");
        x.endHour();
        Check.due("the hour", Check.told(x, 0), "1 1 1 1 0 -3");
    }

    private static void allCanReport() {
        Check.edge("Section 2", "Trusted, suspect and dragged buoys can report.");
        BuoyString x = Check.stringOf(5);
        x.setTerms(5, 1, 2);
        x.storm(11, 3, 4);
        Check.play(x, "hour 0 0 1 0 2 50;");
        Check.due("the states", Check.string(x), "0T-1T-2D-3T 4S");
        Check.due("reports", x.report(0, 1) + " " + x.report(2, 2) + " " + x.report(4, 3), "1 2 3");
        x.endHour();
        Check.due("values", x.value(1, 0) + " " + x.value(1, 2) + " " + x.value(1, 4) + " " + x.hour(1, 3),
                "1 2 3 3");
    }

    private static void valueIsReportLessOffset() {
        Check.edge("Section 2 (1)", "The value of each buoy that reported is its report less its OFFSET.");
        BuoyString x = Check.loaded("terms 5 9 9;buoy 0 1 9 -99;buoy 1 1 9 99;buoy 2 1 9;");
        Check.play(x, "hour 0 9999 1 -9999 2 0;hour 0 -99 1 99;");
        Check.due("the greatest, the least, and 0", x.value(0, 0) + " " + x.value(0, 1) + " " + x.value(0, 2),
                "10098 -10098 0");
        Check.due("values of 0", x.value(1, 0) + " " + x.value(1, 1) + " " + x.level(1), "0 0 0");
    }

    private static void votersAreTrustedThatReported() {
        Check.edge("Section 2 (1)", "The voters are the trusted buoys that reported.");
        BuoyString x = Check.stringOf(5);
        x.setTerms(5, 1, 9);
        x.storm(11, 3, 4);
        Check.hour(x, "0 0 1 0 2 50 4 0", "3 3 1 4 4 0");
        Check.due("the states", Check.string(x), "0T-1T-2D-3T 4S");
        Check.hour(x, "0 0 1 0 2 0 4 0", "3 3 1 4 0 0");
        Check.hour(x, "2 0 4 0", "0 0 0 2 0 ?");
        Check.hour(x, "0 0 1 0 2 0 3 0 4 0", "11 11 1 5 0 0");
    }

    private static void middleWithHalfOfTheVotes() {
        Check.edge("Section 2 (2)", "twice the VOTEs of all voters with a value not above it are at least "
                + "the VOTEs of all voters");
        BuoyString x = Check.stringOf(10);
        x.setTerms(5, 9, 9);
        // 5 of 10 votes are just enough, 4 of 10 are not
        Check.hour(x, "0 0 1 0 2 0 3 0 4 0 5 50 6 50 7 50 8 50 9 50", "1023 31 0 10 0 ?");
        Check.hour(x, "0 0 1 0 2 0 3 0 4 50 5 50 6 50 7 50 8 50 9 50", "1023 1008 1 10 0 50");
        // 4 of 9 votes are too few
        Check.hour(x, "0 0 1 0 2 0 3 0 4 50 5 50 6 50 7 50 8 50", "511 496 1 9 0 50");
        BuoyString y = Check.loaded("terms 5 9 9;buoy 0 9 9;buoy 1 9 9;buoy 2 8 9;");
        Check.hour(y, "0 0 1 50", "3 1 0 2 0 ?");
        Check.hour(y, "1 50 2 0", "6 2 1 2 0 50");
        Check.hour(y, "1 0 2 50", "6 2 1 2 0 0");
    }

    private static void middleIsLeastValue() {
        Check.edge("Section 2 (2)", "The middle is the least value of a voter");
        BuoyString x = Check.stringOf(5);
        Check.hour(x, "0 30 1 20 2 10 3 0 4 -10", "31 4 0 5 0 ?");
        Check.hour(x, "0 30 1 24 2 20 3 10 4 0", "31 6 0 5 0 ?");
        Check.hour(x, "0 -30 1 30", "3 1 0 2 0 ?");
        Check.hour(x, "0 30 1 -30", "3 2 0 2 0 ?");
    }

    private static void middleCountsEqualValues() {
        Check.edge("Section 2 (2)", "all voters with a value not above it");
        BuoyString x = Check.loaded("terms 0 9 9;buoy 0 1 9;buoy 1 2 9;buoy 2 3 9;buoy 3 5 9;");
        // 6 of 11 votes are at 7 only if all three count
        Check.hour(x, "0 7 1 7 2 7 3 8", "15 7 1 4 0 7");
        // one of them is above it: 4 of 11
        Check.hour(x, "0 7 1 8 2 7 3 8", "15 10 1 4 0 8");
    }

    private static void supportersWithinTolerance() {
        Check.edge("Section 2 (2)", "the voters whose values differ from the middle by at most TOLERANCE");
        BuoyString x = Check.stringOf(7);
        x.setTerms(5, 9, 9);
        Check.hour(x, "0 4 1 5 2 10 3 10 4 10 5 15 6 16", "127 62 1 7 0 10");
        Check.hour(x, "0 -16 1 -15 2 -10 3 -10 4 -10 5 -5 6 -4", "127 62 1 7 0 -10");
    }

    private static void leastAndGreatestTolerance() {
        Check.edge("Section 2 (2)", "at most TOLERANCE");
        BuoyString x = Check.stringOf(4);
        x.setTerms(0, 9, 9);
        Check.hour(x, "0 10 1 10 2 11 3 9", "15 3 0 4 0 ?");
        Check.hour(x, "0 10 1 10 2 11", "7 3 1 3 0 10");
        x.setTerms(999, 9, 9);
        Check.hour(x, "0 0 1 999", "3 3 1 2 0 499");
        Check.hour(x, "0 0 1 1000", "3 1 0 2 0 ?");
        Check.hour(x, "0 -9999 1 9999", "3 1 0 2 0 ?");
    }

    private static void withoutVoters() {
        Check.edge("Section 2 (2)", "(Without voters there are neither.)");
        BuoyString x = Check.stringOf(3);
        Check.hour(x, "", "0 0 0 0 0 ?");
        x.storm(99, 0, 2);
        Check.hour(x, "0 0 1 0 2 0", "0 0 0 3 0 ?");
        Check.refused("level(1)", Check.NO_ELEMENT, () -> x.level(1));
        Check.refused("levelWithout(1, 0)", Check.NO_ELEMENT, () -> x.levelWithout(1, 0));
        x.report(0, 0);
        Check.refused("levelNow()", Check.NO_ELEMENT, () -> x.levelNow());
    }

    private static void levelWithMoreThanHalf() {
        Check.edge("Section 2 (3)", "The hour has a level if twice the VOTEs of the supporters are more than "
                + "the VOTEs of all voters.");
        BuoyString x = Check.loaded("terms 5 9 9;buoy 0 9 9;buoy 1 9 9;buoy 2 8 9;buoy 3 1 9;");
        Check.hour(x, "0 0 1 50", "3 1 0 2 0 ?");
        Check.hour(x, "0 0 2 50 3 50", "13 1 0 3 0 ?");
        Check.hour(x, "0 0 2 50", "5 1 1 2 0 0");
        Check.hour(x, "0 0 1 50 3 0", "11 9 1 3 0 0");
        // the supporters can be fewer than half of the voters, and still have more than half of the votes
        BuoyString y = Check.loaded("terms 5 9 9;buoy 0 4 9;buoy 1 1 9;buoy 2 1 9;buoy 3 1 9;");
        Check.hour(y, "0 0 1 50 2 60 3 70", "15 1 1 4 0 0");
        // and less than half
        BuoyString z = Check.stringOf(3);
        Check.hour(z, "0 0 1 50 2 90", "7 2 0 3 0 ?");
        Check.hour(z, "2 -50", "4 4 1 1 0 -50");
    }

    private static void levelByVotes() {
        Check.edge("Section 2 (3)", "The level is then the sum of VOTE times value of the supporters, divided by "
                + "the sum of their VOTEs");
        BuoyString x = Check.loaded("terms 5 9 9;buoy 0 9 9;buoy 1 1 9;buoy 2 9 9;");
        Check.hour(x, "0 0 1 5", "3 3 1 2 0 0");
        Check.hour(x, "0 5 1 0", "3 3 1 2 0 4");
        // the votes of those that do not support it are no part of it
        Check.hour(x, "0 5 1 3 2 99", "7 3 1 3 0 4");
        BuoyString y = Check.loaded("terms 5 9 9;buoy 0 9 9;buoy 1 9 9 -99;");
        Check.hour(y, "0 9999 1 9999", "3 1 0 2 0 ?");
        Check.hour(y, "1 9999", "2 2 1 1 0 10098");
    }

    private static void roundedDown() {
        Check.edge("Section 2 (3)", "and rounded down (toward lesser numbers, also below 0)");
        BuoyString x = Check.stringOf(3);
        Check.hour(x, "0 1 1 2", "3 3 1 2 0 1");
        Check.hour(x, "0 0 1 1", "3 3 1 2 0 0");
        Check.hour(x, "0 0 1 -1", "3 3 1 2 0 -1");
        Check.hour(x, "0 -1 1 -2", "3 3 1 2 0 -2");
        Check.hour(x, "0 -1 1 -3", "3 3 1 2 0 -2");
        Check.hour(x, "0 -1 1 0 2 0", "7 7 1 3 0 -1");
        Check.hour(x, "0 1 1 1 2 0", "7 7 1 3 0 0");
        Check.hour(x, "0 -9999 1 -9998", "3 3 1 2 0 -9999");
    }

    private static void hourIsKept() {
        Check.edge("Section 2 (6)", "The hour is kept.");
        BuoyString x = Check.stringOf(2);
        Check.due("kept hours at first", x.size(2), 0);
        x.endHour();
        Check.due("an hour without reports is kept, too", x.size(2) + " " + Check.told(x, 0), "1 0 0 0 0 0 ?");
    }

    private static void latest24() {
        Check.edge("Section 2 (6)", "The latest 24 hours that ended are kept, older ones are not.");
        BuoyString x = Check.stringOf(2);
        Check.play(x, "hour 0 100;hour 0 101;" + "hour 1 7;".repeat(21));
        Check.due("23 hours", x.size(2) + " " + x.level(0) + " " + x.level(22), "23 100 7");
        Check.play(x, "hour 0 123;");
        Check.due("24 hours", x.size(2) + " " + x.level(0) + " " + x.level(23), "24 100 123");
        Check.play(x, "hour 1 124;");
        Check.due("25 hours", x.size(2) + " " + x.level(1) + " " + x.level(24), "24 101 124");
        Check.refused("hour 0", Check.INDEX, () -> x.level(0));
        Check.due("what takes the place of hour 0 has nothing of it", Check.told(x, 24), "2 2 1 1 0 124");
        Check.refused("value(24, 0)", Check.NO_ELEMENT, () -> x.value(24, 0));
        Check.play(x, "hour 0 125;" + "hour;".repeat(22));
        Check.due("48 hours", x.size(2) + " " + x.level(24) + " " + x.level(25), "24 124 125");
        Check.refused("hour 23", Check.INDEX, () -> x.level(23));
        x.endHour();
        Check.refused("hour 24", Check.INDEX, () -> x.level(24));
        Check.due("49 hours", x.size(2) + " " + x.level(25), "24 125");
        placeOfAnOlderHour();
    }

    private static void allOf24() {
        Check.edge("Section 2 (6)", "The latest 24 hours that ended are kept (ten buoys, all values)");
        BuoyString x = Check.stringOf(10);
        x.setTerms(999, 9, 9);
        for (int h = 0; h < 30; h++) {
            for (int b = 0; b < 10; b++) {
                x.report(b, 10 * h + b + 1);
            }
            x.endHour();
            for (int k = Math.max(0, h - 23); k <= h; k++) {
                for (int b = 0; b < 10; b++) {
                    Check.due("value(" + k + ", " + b + ") behind hour " + h, x.value(k, b), 10 * k + b + 1);
                }
            }
        }
    }

    private static void placeOfAnOlderHour() {
        BuoyString x = Check.stringOf(5);
        x.setTerms(5, 1, 9);
        x.storm(11, 3, 4);
        Check.hour(x, "0 0 1 0 2 50 4 0", "3 3 1 4 4 0");
        Check.hour(x, "0 0 1 0 2 50 4 0", "3 3 1 4 0 0");
        x.haul(2);
        Check.play(x, "hour;".repeat(22));
        Check.hour(x, "2 7", "0 0 0 1 0 ?");
        Check.due("why() of hour 24", "" + x.why(24, 0) + x.why(24, 1) + x.why(24, 2) + x.why(24, 4), "1121");
        Check.hour(x, "0 7 2 7 3 8", "9 9 1 3 0 7");
        Check.due("why() of hour 25", "" + x.why(25, 0) + x.why(25, 1) + x.why(25, 2) + x.why(25, 3) + x.why(25, 4),
                "01201");
    }

    private static void nextHourRuns() {
        Check.edge("Section 2 (8)", "The next hour runs; it has no reports.");
        BuoyString x = Check.stringOf(10);
        Check.play(x, "hour 0 1 1 1 2 1 3 1 4 1 5 1 6 1 7 1 8 1 9 9;");
        Check.due("the hour that runs", x.size(1), 1);
        for (int b = 0; b < 10; b++) {
            Check.due("buoy " + b, x.buoy(b, 8) + " " + x.buoy(b, 9), "0 0");
        }
        Check.refused("levelNow()", Check.NO_ELEMENT, () -> x.levelNow());
        Check.due("the first report of it", x.report(9, 5), 1);
    }
}
