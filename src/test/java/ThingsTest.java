/** Promises 7 to 10: size, buoy, rope, account. */
public final class ThingsTest {
    public static void main(String[] args) {
        size();
        buoy();
        rope();
        account();
        Check.end("ThingsTest");
    }

    private static void sizes(BuoyString x, String call, String want) {
        StringBuilder all = new StringBuilder();
        for (int what = 0; what <= 16; what++) {
            all.append(what == 0 ? "" : " ").append(x.size(what));
        }
        Check.due("size(0 to 16) behind " + call, all, want);
    }

    private static void size() {
        BuoyString x = Check.loaded("terms 5 2 4;buoy 0 1 9;buoy 10 1 9;buoy 30 1 9;buoy 60 1 9;stock 500;");
        sizes(x, "load()", "4 0 0 4 0 0 0 500 5 2 4 0 0 0 0 500 0");
        Check.play(x, "hour 0 1 1 1 2 1 3 90;");
        sizes(x, "an hour", "4 1 1 4 0 0 0 500 5 2 4 0 5 1 0 500 0");
        Check.play(x, "hour 0 1 1 99;");
        sizes(x, "an hour without a level", "4 2 2 4 0 0 0 500 5 2 4 0 8 1 0 500 0");
        Check.play(x, "hour 0 1 1 1 2 1 3 90;");
        sizes(x, "an hour that drags a buoy", "4 3 3 3 0 1 0 500 5 2 4 0 8 2 2 500 0");
        x.storm(11, 0, 1);
        sizes(x, "a storm", "4 3 3 2 1 1 1 500 5 2 4 1 8 2 2 500 0");
        x.storm(1, 0, 1);
        sizes(x, "a storm", "4 3 3 2 1 1 1 500 5 2 4 2 8 2 2 500 0");
        x.remake(0);
        x.addStock(40);
        sizes(x, "remake() and addStock()", "4 3 3 2 1 1 0 530 5 2 4 2 8 2 2 540 10");
        x.setTerms(7, 8, 9);
        sizes(x, "setTerms()", "4 3 3 2 1 1 0 530 7 8 9 2 8 2 2 540 10");
        Check.play(x, "hour;".repeat(30));
        sizes(x, "30 hours", "4 33 24 2 1 1 0 530 7 8 9 2 8 0 2 540 10");
        for (int what : new int[] {-1, 17, Integer.MAX_VALUE, Integer.MIN_VALUE}) {
            Check.refused("size(" + what + ")", Check.ARGUMENT, () -> x.size(what));
        }
    }

    private static String all(BuoyString x, int buoy) {
        StringBuilder all = new StringBuilder();
        for (int what = 0; what <= 9; what++) {
            all.append(what == 0 ? "" : " ").append(x.buoy(buoy, what));
        }
        return all.toString();
    }

    private static void buoy() {
        BuoyString x = Check.loaded("terms 5 2 4;buoy 3 2 9 -7;buoy 10 3 8;buoy 30 4 7 6;");
        Check.due("buoy 0", all(x, 0), "3 2 9 -7 0 0 0 -1 0 0");
        Check.due("buoy 2", all(x, 2), "30 4 7 6 0 0 0 -1 0 0");
        x.report(0, 0);
        x.report(1, -9999);
        Check.due("buoy 0 with a report of 0", all(x, 0), "3 2 9 -7 0 0 0 -1 1 0");
        Check.due("buoy 1 with a report", all(x, 1), "10 3 8 0 0 0 0 -1 1 -9999");
        x.report(2, 5000);
        x.endHour();
        Check.due("buoy 0 in an hour without a level", all(x, 0), "3 2 9 -7 0 0 0 -1 0 0");
        Check.play(x, "hour 1 8 2 14 0 9;");
        Check.due("buoy 0 behind an outvoted hour", all(x, 0), "3 2 9 -7 0 1 0 1 0 0");
        Check.play(x, "hour 1 8 2 14 0 9;");
        Check.due("buoy 0, dragged", all(x, 0), "3 2 9 -7 2 2 0 1 0 0");
        x.haul(0);
        Check.play(x, "hour 1 8 2 14 0 1;");
        Check.due("buoy 0, suspect", all(x, 0), "3 2 9 -7 1 0 1 -1 0 0");
        for (int b : new int[] {-1, 3, 10, Integer.MAX_VALUE, Integer.MIN_VALUE}) {
            Check.refused("buoy(" + b + ", 0)", Check.INDEX, () -> x.buoy(b, 0));
            Check.refused("buoy(" + b + ", 10)", Check.INDEX, () -> x.buoy(b, 10));
        }
        Check.refused("buoy(0, 10)", Check.ARGUMENT, () -> x.buoy(0, 10));
        Check.refused("buoy(0, -1)", Check.ARGUMENT, () -> x.buoy(0, -1));
    }

    private static String ropeAll(BuoyString x, int k) {
        return x.rope(k, 0) + " " + x.rope(k, 1) + " " + x.rope(k, 2) + " " + x.rope(k, 3);
    }

    private static void rope() {
        BuoyString x = Check.loaded("terms 5 2 4;buoy 3 2 99;buoy 10 3 98;buoy 30 4 97;rope 1 7;");
        Check.due("ropes", ropeAll(x, 0) + ", " + ropeAll(x, 1), "7 10 0 0, 20 7 0 0");
        x.storm(7, 0, 2);
        Check.due("worn ropes", ropeAll(x, 0) + ", " + ropeAll(x, 1), "7 10 7 0, 20 7 7 0");
        x.storm(1, 0, 2);
        Check.due("a broken rope", ropeAll(x, 0) + ", " + ropeAll(x, 1), "7 10 8 0, 20 7 8 1");
        x.storm(99, 0, 2);
        Check.due("both broken", ropeAll(x, 0) + ", " + ropeAll(x, 1), "7 10 107 1, 20 7 8 1");
        for (int k : new int[] {-1, 2, 9, Integer.MAX_VALUE, Integer.MIN_VALUE}) {
            Check.refused("rope(" + k + ", 0)", Check.INDEX, () -> x.rope(k, 0));
            Check.refused("rope(" + k + ", 4)", Check.INDEX, () -> x.rope(k, 4));
        }
        Check.refused("rope(0, 4)", Check.ARGUMENT, () -> x.rope(0, 4));
        Check.refused("rope(1, -1)", Check.ARGUMENT, () -> x.rope(1, -1));
    }

    private static void account() {
        BuoyString x = new BuoyString();
        Check.due("accounts at first", Check.accounts(x), "0 0 0 0 0");
        x.report(0, 1);
        x.endHour();
        x.storm(1, 0, 1);
        x.remake(0);
        Check.due("accounts", Check.accounts(x), "3 0 1 0 0");
        x.addStock(100);
        x.remake(0);
        x.remake(0);
        x.haul(0);
        x.remakeBy(9);
        x.remakeBy(99);
        x.setOffset(0, 1);
        x.setHold(0, 1);
        x.setTerms(1, 1, 1);
        Check.due("accounts", Check.accounts(x), "9 2 1 1 0");
        for (int i = 0; i < 10; i++) {
            x.addStock(9999);
        }
        x.addStock(9);
        x.addStock(10);
        Check.due("accounts", Check.accounts(x), "20 2 1 1 1");
        x.undo();
        x.undo();
        Check.answer(() -> x.report(9, 9));
        Check.answer(() -> x.report(0, 99999));
        Check.due("accounts behind undo() and exceptions", Check.accounts(x), "20 2 1 1 1");
        x.save(0);
        x.restore(0);
        x.load();
        x.play();
        Check.due("accounts behind other calls", Check.accounts(x), "20 2 1 1 1");
        Check.refused("account(-1)", Check.ARGUMENT, () -> x.account(-1));
        Check.refused("account(5)", Check.ARGUMENT, () -> x.account(5));
        Check.refused("account(least)", Check.ARGUMENT, () -> x.account(Integer.MIN_VALUE));
    }
}
