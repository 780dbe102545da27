import java.util.ArrayList;
import java.util.List;

/** Promises 41 to 46: the output, undo, saved states. */
public final class UndoTest {
    public static void main(String[] args) {
        writeString();
        writeHours();
        output();
        undo();
        undoOfEachAct();
        undoLeavesTheRest();
        save();
        restore();
        Check.end("UndoTest");
    }

    private static void writeString() {
        BuoyString x = Check.loaded("terms 5 1 2;buoy 0 1 99;buoy 1 1 99;buoy 2 1 0;buoy 3 1 99;rope 1 1;rope 2 1;");
        Check.due("writeString()", x.writeString(), 11);
        Check.due("the output", Check.written(x, 11), "0T-1T-2T-3T");
        x.storm(2, 1, 3);
        Check.play(x, "hour 0 0 1 0 3 90;");
        Check.due("the output", Check.string(x), "0T-1T 2S 3D");
        Check.due("its bytes", x.output(1) + " " + x.output(2) + " " + x.output(5) + " " + x.output(7) + " "
                + x.output(10), "84 45 32 83 68");
    }

    private static void writeHours() {
        BuoyString x = new BuoyString();
        Check.due("no hours", x.writeHours(), 0);
        Check.refused("output(0)", Check.INDEX, () -> x.output(0));
        Check.play(x, "hour 0 5;hour;hour 0 -1204;hour 1 0;");
        Check.due("writeHours()", x.writeHours(), 18);
        Check.due("the output", Check.written(x, 18), "0=5 1? 2=-1204 3=0");
        Check.play(x, "hour;".repeat(19) + "hour 1 9999;");
        Check.due("24 hours", Check.hours(x),
                "0=5 1? 2=-1204 3=0 4? 5? 6? 7? 8? 9? 10? 11? 12? 13? 14? 15? 16? 17? 18? 19? 20? 21? 22? 23=9999");
        Check.play(x, "hour;hour;");
        Check.due("the latest 24 hours", Check.hours(x), "2=-1204 3=0 4? 5? 6? 7? 8? 9? 10? 11? 12? 13? 14? 15? 16? "
                + "17? 18? 19? 20? 21? 22? 23=9999 24? 25?");
        for (int n = 0; n < 27; n++) {
            Check.play(x, "hour;".repeat(40));
        }
        Check.due("hours above 1000", Check.hours(x).startsWith("1082? 1083? "), true);
        x.setOffset(0, 99);
        Check.play(x, "hour 0 -9999;".repeat(24));
        StringBuilder want = new StringBuilder();
        for (int h = 1106; h < 1130; h++) {
            want.append(h == 1106 ? "" : " ").append(h).append("=-10098");
        }
        Check.due("the longest ones", Check.hours(x), want);
    }

    private static void output() {
        BuoyString x = new BuoyString();
        for (int i : new int[] {0, -1, 1, Integer.MAX_VALUE, Integer.MIN_VALUE}) {
            Check.refused("output(" + i + ")", Check.INDEX, () -> x.output(i));
        }
        x.writeString();
        Check.due("output(4)", x.output(4), 84);
        Check.refused("output(5)", Check.INDEX, () -> x.output(5));
        Check.refused("output(-1)", Check.INDEX, () -> x.output(-1));
        x.endHour();
        x.writeHours();
        Check.due("it is replaced", x.output(0) + " " + x.output(1), "48 63");
        Check.refused("output(2)", Check.INDEX, () -> x.output(2));
        x.undo();
        Check.due("it stays", Check.written(x, 2), "0?");
        x.writeHours();
        Check.refused("output(0)", Check.INDEX, () -> x.output(0));
    }

    private static void undo() {
        BuoyString x = new BuoyString();
        Check.refused("undo()", Check.STATE, () -> x.undo());
        List<String> worlds = new ArrayList<>();
        for (int n = 0; n < 12; n++) {
            worlds.add(Check.world(x));
            x.addStock(n + 1);
        }
        Check.due("acts that can be undone", x.size(12), 8);
        for (int n = 11; n >= 4; n--) {
            Check.due("undo()", x.undo(), n - 4);
            Check.due("the string", Check.world(x), worlds.get(n));
            Check.due("size(12)", x.size(12), n - 4);
        }
        Check.refused("a ninth undo()", Check.STATE, () -> x.undo());
        Check.due("the string", Check.world(x), worlds.get(4));
        x.addStock(1);
        x.addStock(2);
        x.undo();
        x.addStock(3);
        Check.due("acts behind undo()", x.size(12) + " " + x.size(7), "2 14");
        x.undo();
        x.undo();
        Check.due("the string", Check.world(x), worlds.get(4));
        Check.due("undone acts count", x.account(0), 15);
    }

    /** Does an act of each kind ahead of which much is set, and takes it back. */
    private static void undoOfEachAct() {
        BuoyString x = Check.loaded("terms 5 2 2;buoy 0 1 9;buoy 10 1 9 -4;buoy 30 1 9;buoy 31 1 9;rope 1 9;stock 90;");
        Check.play(x, "hour 0 4 1 0 2 0 3 90;hour 0 4 1 0 2 4;storm 8 1 2;");
        x.report(3, 90);
        x.report(0, 4);
        x.report(1, 0);
        x.report(2, 5);
        String world = Check.world(x);
        for (int act = 0; act < 12; act++) {
            doAct(x, act);
            Check.due("undo() of act " + act, x.undo() + " " + Check.world(x), 7 + " " + world);
        }
        x.endHour();
        Check.due("it drags one and tells hours anew", x.size(5) + " " + x.size(14), "1 2");
        world = Check.world(x);
        x.haul(3);
        x.undo();
        Check.due("undo() of haul()", Check.world(x), world);
        x.haul(3);
        Check.play(x, "hour 0 4 1 0 2 0 3 3;");
        Check.due("it agreed", x.buoy(3, 6), 1);
        world = Check.world(x);
        x.storm(99, 3, 3);
        Check.due("it drifts", x.buoy(3, 6), 0);
        x.undo();
        Check.due("undo() of storm()", Check.world(x), world);
        undoOfHoursThatTakeThePlaceOfOthers();
    }

    private static void undoOfHoursThatTakeThePlaceOfOthers() {
        BuoyString x = Check.loaded("terms 5 1 2;buoy 0 1 9;buoy 1 1 9;buoy 2 1 0;buoy 3 1 9;rope 1 1;rope 2 1;");
        x.storm(2, 1, 3);
        Check.play(x, "hour 0 0 1 0 2 9 3 90;hour 0 0 1 0 2 9 3 0;hour;" + "hour 0 1 1 1;".repeat(21));
        Check.due("buoys and hours", Check.string(x) + " " + x.size(2), "0T-1T 2S 3D 24");
        String world = Check.world(x);
        x.save(0);
        x.haul(3);
        Check.play(x, "hour 0 50 1 60 2 4;hour 3 4;hour 0 5 1 6 2 7 3 8;hour 0 5 1 6 2 7 3 8;");
        Check.due("they are trusted again", Check.string(x), "0T-1T 2T 3T");
        String later = Check.world(x);
        x.save(1);
        x.restore(0);
        Check.due("restore(0)", Check.world(x), world);
        x.haul(3);
        x.report(2, 5);
        x.endHour();
        x.undo();
        x.undo();
        x.undo();
        Check.due("undo()", Check.world(x), world);
        x.restore(1);
        Check.due("restore(1)", Check.world(x), later);
    }

    private static void doAct(BuoyString x, int act) {
        switch (act) {
            case 0:
                x.report(3, 7);
                break;
            case 1:
                x.endHour();
                break;
            case 2:
                x.storm(2, 0, 3);
                break;
            case 3:
                x.storm(99, 0, 3);
                break;
            case 4:
                x.remake(1);
                break;
            case 5:
                x.remakeBy(5);
                break;
            case 6:
                x.addStock(5);
                break;
            case 7:
                x.setOffset(1, 9);
                break;
            case 8:
                x.setHold(2, 33);
                break;
            case 9:
                x.setTerms(6, 7, 8);
                break;
            case 10:
                x.setTerms(5, 2, 2);
                break;
            default:
                x.report(3, 90);
                break;
        }
    }

    private static void undoLeavesTheRest() {
        BuoyString x = new BuoyString();
        Check.playError(x, "storm 0", 2, 6);
        x.addStock(5);
        x.haul(0);
        x.save(1);
        int written = x.writeString();
        Check.type(x, "hou");
        x.undo();
        Check.due("accounts", x.account(0) + " " + x.account(1), "1 1");
        Check.due("the text buffer", x.append(0, 0, 0, 0, 0), 3);
        Check.due("the error", x.errorCode() + " " + x.errorPosition(), "2 6");
        Check.due("the output", Check.written(x, written), "0T-1T");
        x.restore(1);
        Check.due("the saved state", x.size(7), 5);
        Check.due("the text buffer", x.append(0, 0, 0, 0, 0), 3);
        Check.due("the output", Check.written(x, written), "0T-1T");
        Check.due("the error", x.errorCode() + " " + x.errorPosition(), "2 6");
    }

    private static void save() {
        BuoyString x = new BuoyString();
        Check.play(x, "hour 0 5;hour 1 7;");
        x.report(0, 3);
        String world = Check.world(x);
        Check.due("save(0)", x.save(0), 2);
        Check.due("save() is no act", x.size(12) + " " + x.account(0), "5 5");
        x.endHour();
        x.addStock(100);
        x.storm(20, 0, 1);
        String later = Check.world(x);
        Check.due("save(1)", x.save(1), 3);
        x.undo();
        Check.due("restore(0)", x.restore(0) + " " + Check.world(x), "2 " + world);
        Check.refused("undo() behind restore()", Check.STATE, () -> x.undo());
        Check.due("restore(1)", x.restore(1) + " " + Check.world(x), "2 " + later);
        x.setTerms(1, 1, 1);
        x.report(1, 1);
        Check.due("it stays saved", x.restore(1) + " " + Check.world(x), "2 " + later);
        x.addStock(1);
        x.save(1);
        x.undo();
        Check.due("a state is replaced", x.restore(1) + " " + x.size(7), "2 101");
        Check.due("the other one is not", x.restore(0) + " " + Check.world(x), "2 " + world);
        for (int slot : new int[] {-1, 2, Integer.MAX_VALUE, Integer.MIN_VALUE}) {
            Check.refused("save(" + slot + ")", Check.INDEX, () -> x.save(slot));
        }
    }

    private static void restore() {
        BuoyString x = Check.loaded("terms 5 2 2;buoy 0 3 9;buoy 10 1 9 -4;buoy 30 1 9;stock 90;");
        for (int slot : new int[] {-1, 2, 32, Integer.MAX_VALUE, Integer.MIN_VALUE}) {
            Check.refused("restore(" + slot + ")", Check.INDEX, () -> x.restore(slot));
        }
        Check.refused("restore(0)", Check.STATE, () -> x.restore(0));
        Check.refused("restore(1)", Check.STATE, () -> x.restore(1));
        Check.play(x, "hour 0 7 1 3 2 90;stock 5;");
        x.save(1);
        Check.refused("restore(0)", Check.STATE, () -> x.restore(0));
        String world = Check.world(x);
        Check.type(x, "terms 9 9 9;buoy 0 1 9;buoy 1 1 9;");
        x.load();
        Check.play(x, "hour 0 1;hour 1 2;");
        Check.due("accounts", x.account(0), 9);
        Check.due("a state of another string", x.restore(1) + " " + Check.world(x), "3 " + world);
        Check.due("no act can be undone", x.size(12), 0);
        Check.due("the accounts stay", x.account(0), 9);
        x.report(2, 4);
        Check.due("acts behind it", x.size(12) + " " + x.undo() + " " + Check.world(x), "1 0 " + world);
    }
}
