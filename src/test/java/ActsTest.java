/** Promises 31 and 36 to 40: reports, hauling, stock, and what is set. */
public final class ActsTest {
    private static final int[] NO_BUOYS = {-1, 3, 10, Integer.MAX_VALUE, Integer.MIN_VALUE};

    public static void main(String[] args) {
        report();
        haul();
        addStock();
        setOffset();
        setHold();
        setTerms();
        Check.end("ActsTest");
    }

    private static BuoyString three() {
        return Check.loaded("terms 5 2 2;buoy 0 1 9;buoy 10 1 9 -4;buoy 30 1 9;stock 90;");
    }

    private static void report() {
        BuoyString x = three();
        Check.due("report()", x.report(1, 5) + " " + x.report(0, 9999) + " " + x.report(2, -9999), "1 2 3");
        Check.due("a later report", x.report(1, -6) + " " + x.buoy(1, 9) + " " + x.size(12), "3 -6 4");
        x.undo();
        Check.due("undo() of it", x.buoy(1, 9) + " " + x.buoy(1, 8), "5 1");
        String before = Check.everything(x);
        for (int b : NO_BUOYS) {
            Check.refused("report(" + b + ", 0)", Check.INDEX, () -> x.report(b, 0));
            Check.refused("report(" + b + ", 10000)", Check.INDEX, () -> x.report(b, 10000));
        }
        for (int r : new int[] {10000, -10000, Integer.MAX_VALUE, Integer.MIN_VALUE}) {
            Check.refused("report(0, " + r + ")", Check.ARGUMENT, () -> x.report(0, r));
        }
        Check.due("nothing changes", Check.everything(x), before);
        x.endHour();
        Check.due("the next hour has no reports", x.report(1, 0), 1);

        // all three can report, but only trusted ones vote
        BuoyString y = Check.loaded("terms 5 1 9;buoy 0 1 99;buoy 1 1 99;buoy 2 1 99;buoy 3 1 0;rope 2 1;");
        y.storm(2, 2, 3);
        Check.play(y, "hour 0 1 1 1 2 90;hour 0 1 1 1 2 1 3 1;");
        Check.due("states", Check.string(y), "0T-1T-2D 3S");
        Check.due("hour 1", y.hour(1, 3) + " " + y.hour(1, 0), "4 3");
    }

    private static void haul() {
        BuoyString x = Check.loaded("terms 5 1 2;buoy 0 2 9;buoy 10 2 9;buoy 30 1 9;buoy 31 1 9;");
        Check.play(x, "hour 0 1 1 1 2 50 3 60;");
        Check.due("two are dragged", Check.string(x), "0T-1T-2D-3D");
        String hour = x.hour(0, 0) + " " + x.hour(0, 4);
        Check.due("haul()", x.haul(3) + " " + Check.string(x), "1 0T-1T-2D-3S");
        Check.due("its numbers", x.buoy(3, 5) + " " + x.buoy(3, 6) + " " + x.buoy(3, 7), "0 0 -1");
        Check.due("the other's numbers", x.buoy(2, 5) + " " + x.buoy(2, 6) + " " + x.buoy(2, 7), "1 0 0");
        Check.due("kept hours stay", x.hour(0, 0) + " " + x.hour(0, 4), hour);
        Check.due("haul() of a suspect one", x.haul(3) + " " + x.account(1), "-1 1");
        Check.due("haul() of a trusted one", x.haul(0) + " " + x.account(1), "-1 2");
        Check.due("haul() of the last one", x.haul(2) + " " + x.size(4) + " " + x.size(5), "0 2 0");
        String before = Check.everything(x);
        for (int b : new int[] {-1, 4, 10, Integer.MAX_VALUE, Integer.MIN_VALUE}) {
            Check.refused("haul(" + b + ")", Check.INDEX, () -> x.haul(b));
        }
        Check.due("nothing changes", Check.everything(x), before);
        Check.play(x, "hour 0 1 1 1 2 2 3 90;hour 0 1 1 1 2 3 3 90;");
        Check.due("it won its votes back", Check.string(x), "0T-1T-2T-3S");
        Check.due("kept hours stay", x.hour(0, 0) + " " + x.hour(0, 4) + " " + x.why(0, 2) + x.why(1, 2), hour + " 52");
        Check.play(x, "hour 0 1 1 1 2 90;");
        Check.due("it is dragged again, from then on", x.hour(3, 4) + " " + x.hour(0, 4) + " " + x.buoy(2, 7), "4 12 3");
    }

    private static void addStock() {
        BuoyString x = three();
        Check.due("addStock()", x.addStock(1) + " " + x.addStock(9999), "91 10090");
        for (int n : new int[] {0, -1, 10000, Integer.MAX_VALUE, Integer.MIN_VALUE}) {
            Check.refused("addStock(" + n + ")", Check.ARGUMENT, () -> x.addStock(n));
        }
        BuoyString y = Check.loaded("terms 5 2 2;buoy 0 1 9;buoy 10 1 9;stock 95000;");
        Check.due("too much", y.addStock(5000) + " " + y.size(7) + " " + y.size(15) + " " + y.account(4), "-4 95000 95000 1");
        Check.due("as much as can be", y.addStock(4999) + " " + y.size(15), "99999 99999");
        Check.due("one more", y.addStock(1) + " " + y.account(4) + " " + y.size(12), "-4 2 1");
        y.storm(50, 0, 1);
        y.remake(0);
        Check.due("what was used can come again", y.addStock(10) + " " + y.size(15) + " " + y.size(16), "99999 100009 10");
    }

    private static void setOffset() {
        BuoyString x = three();
        Check.due("setOffset()", x.setOffset(1, 99) + " " + x.setOffset(1, -99) + " " + x.setOffset(1, 7) + " "
                + x.buoy(1, 3), "95 198 0 7");
        Check.play(x, "hour 1 10;");
        x.report(1, 10);
        Check.due("setOffset() as it was", x.setOffset(1, 7) + " " + x.size(12), "106 7");
        x.setOffset(1, 2);
        Check.due("kept hours stay", x.value(0, 1) + " " + x.level(0), "3 3");
        x.endHour();
        Check.due("the hour counts with the OFFSET at its end", x.value(1, 1) + " " + x.level(1), "8 8");
        String before = Check.everything(x);
        for (int b : NO_BUOYS) {
            Check.refused("setOffset(" + b + ", 0)", Check.INDEX, () -> x.setOffset(b, 0));
            Check.refused("setOffset(" + b + ", 100)", Check.INDEX, () -> x.setOffset(b, 100));
        }
        for (int o : new int[] {100, -100, Integer.MAX_VALUE, Integer.MIN_VALUE}) {
            Check.refused("setOffset(0, " + o + ")", Check.ARGUMENT, () -> x.setOffset(0, o));
        }
        Check.due("nothing changes", Check.everything(x), before);
    }

    private static void setHold() {
        BuoyString x = three();
        Check.due("setHold()", x.setHold(2, 0) + " " + x.setHold(2, 99) + " " + x.setHold(2, 5) + " " + x.buoy(2, 2),
                "9 0 99 5");
        Check.due("it counts", x.lacks(8), 1);
        String before = Check.everything(x);
        for (int b : NO_BUOYS) {
            Check.refused("setHold(" + b + ", 0)", Check.INDEX, () -> x.setHold(b, 0));
            Check.refused("setHold(" + b + ", -1)", Check.INDEX, () -> x.setHold(b, -1));
        }
        for (int h : new int[] {100, -1, Integer.MAX_VALUE, Integer.MIN_VALUE}) {
            Check.refused("setHold(0, " + h + ")", Check.ARGUMENT, () -> x.setHold(0, h));
        }
        Check.due("nothing changes", Check.everything(x), before);
    }

    private static void setTerms() {
        BuoyString x = three();
        Check.play(x, "hour 0 0 1 1 2 5;");
        String hours = Check.hours(x);
        Check.due("setTerms()", x.setTerms(0, 1, 1) + " " + x.setTerms(999, 9, 9) + " " + x.setTerms(7, 3, 4), "5 0 999");
        Check.due("the terms", x.size(8) + " " + x.size(9) + " " + x.size(10), "7 3 4");
        Check.due("hours stay", Check.hours(x), hours);
        String before = Check.everything(x);
        int[][] wrong = {{-1, 1, 1}, {1000, 1, 1}, {5, 0, 1}, {5, 10, 1}, {5, 1, 0}, {5, 1, 10},
            {Integer.MIN_VALUE, 1, 1}, {5, Integer.MAX_VALUE, 1}, {5, 1, Integer.MIN_VALUE}};
        for (int[] w : wrong) {
            Check.refused("setTerms(" + w[0] + ", " + w[1] + ", " + w[2] + ")", Check.ARGUMENT,
                    () -> x.setTerms(w[0], w[1], w[2]));
        }
        Check.due("nothing changes", Check.everything(x), before);
    }
}
