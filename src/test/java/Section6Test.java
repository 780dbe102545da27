/** Section 6 of the document, EXCEPTIONS: a test for each sentence with a boundary. */
public final class Section6Test {
    private static final int LEAST = Integer.MIN_VALUE;
    private static final int MOST = Integer.MAX_VALUE;

    public static void main(String[] args) {
        exceptionsOfCallsChangeNothing();
        exceptionsOfActsChangeNothing();
        buoyAheadOfArgument();
        hourAheadOfTheRest();
        slotAheadOfState();
        exceptionsAheadOfReasons();
        noSuchBuoy();
        noSuchRope();
        noSuchSavedState();
        noSuchHour();
        Check.end("Section6Test");
    }

    private static void nothingBy(BuoyString x, String call, Class<?> thrown, Check.Call made) {
        String before = Check.everything(x) + Check.written(x, 11) + x.errorCode() + x.errorPosition();
        int length = x.append(0, 0, 0, 0, 0);
        Check.refused(call, thrown, made);
        String behind = Check.everything(x) + Check.written(x, 11) + x.errorCode() + x.errorPosition();
        Check.due("everything behind " + call, behind, before);
        Check.due("the text behind " + call, x.append(0, 0, 0, 0, 0), length);
    }

    private static void exceptionsOfCallsChangeNothing() {
        Check.edge("Section 6", "A method that throws an exception changes nothing. (not acts)");
        BuoyString x = Check.usedString();
        Check.type(x, "-".repeat(497));
        nothingBy(x, "append()", Check.STATE, () -> x.append(0x2d2d2d2d, 0, 0, 0, 0));
        nothingBy(x, "size()", Check.ARGUMENT, () -> x.size(17));
        nothingBy(x, "hour()", Check.INDEX, () -> x.hour(2, 0));
        nothingBy(x, "level()", Check.INDEX, () -> x.level(2));
        nothingBy(x, "value()", Check.INDEX, () -> x.value(0, 4));
        nothingBy(x, "tide()", Check.NO_ELEMENT, () -> x.tide(0));
        nothingBy(x, "levelWithout()", Check.NO_ELEMENT, () -> x.levelWithout(0, 15));
        nothingBy(x, "output()", Check.INDEX, () -> x.output(11));
        nothingBy(x, "save()", Check.INDEX, () -> x.save(2));
        nothingBy(x, "restore()", Check.INDEX, () -> x.restore(2));
        nothingBy(x, "restore() of nothing", Check.STATE, () -> x.restore(1));
        nothingBy(x, "lacks()", Check.ARGUMENT, () -> x.lacks(0));
        Check.due("the text can still be read", x.play() + " " + x.errorPosition(), "-1 0");
        BuoyString y = new BuoyString();
        y.writeString();
        Check.refused("undo()", Check.STATE, () -> y.undo());
        Check.due("nothing changes", Check.everything(y), Check.everything(new BuoyString()));
    }

    private static void exceptionsOfActsChangeNothing() {
        Check.edge("Section 6", "A method that throws an exception changes nothing. (acts)");
        BuoyString x = Check.usedString();
        nothingBy(x, "report() of no buoy", Check.INDEX, () -> x.report(4, 0));
        nothingBy(x, "report() out of range", Check.ARGUMENT, () -> x.report(0, 10000));
        nothingBy(x, "storm() of no buoy", Check.INDEX, () -> x.storm(99, 0, 4));
        nothingBy(x, "storm() without force", Check.ARGUMENT, () -> x.storm(0, 0, 3));
        nothingBy(x, "storm() backwards", Check.ARGUMENT, () -> x.storm(99, 1, 0));
        nothingBy(x, "remake()", Check.INDEX, () -> x.remake(3));
        nothingBy(x, "remakeBy()", Check.ARGUMENT, () -> x.remakeBy(100));
        nothingBy(x, "haul()", Check.INDEX, () -> x.haul(4));
        nothingBy(x, "addStock()", Check.ARGUMENT, () -> x.addStock(0));
        nothingBy(x, "setOffset()", Check.INDEX, () -> x.setOffset(4, 0));
        nothingBy(x, "setOffset() out of range", Check.ARGUMENT, () -> x.setOffset(0, 100));
        nothingBy(x, "setHold()", Check.INDEX, () -> x.setHold(4, 0));
        nothingBy(x, "setHold() out of range", Check.ARGUMENT, () -> x.setHold(0, 100));
        nothingBy(x, "setTerms(), the first", Check.ARGUMENT, () -> x.setTerms(1000, 9, 9));
        nothingBy(x, "setTerms(), the second", Check.ARGUMENT, () -> x.setTerms(0, 10, 9));
        nothingBy(x, "setTerms(), the third", Check.ARGUMENT, () -> x.setTerms(0, 9, 10));
        Check.due("undo() of the act ahead of them", x.undo() + " " + x.buoy(0, 8), "7 0");
    }

    private static void buoyAheadOfArgument() {
        Check.edge("Section 6", "If several exceptions apply, the one that comes first in the method's list is "
                + "thrown.");
        BuoyString x = Check.usedString();
        Check.refused("buoy(4, 10)", Check.INDEX, () -> x.buoy(4, 10));
        Check.refused("rope(3, 4)", Check.INDEX, () -> x.rope(3, 4));
        Check.refused("report(4, 10000)", Check.INDEX, () -> x.report(4, 10000));
        Check.refused("setOffset(4, 100)", Check.INDEX, () -> x.setOffset(4, 100));
        Check.refused("setHold(4, 100)", Check.INDEX, () -> x.setHold(4, 100));
        for (int force : new int[] {0, 100, LEAST, MOST}) {
            Check.refused("storm(" + force + ", 4, 0)", Check.INDEX, () -> x.storm(force, 4, 0));
            Check.refused("storm(" + force + ", 0, -1)", Check.INDEX, () -> x.storm(force, 0, -1));
            Check.refused("wouldBreak(" + force + ", 4, 0)", Check.INDEX, () -> x.wouldBreak(force, 4, 0));
            Check.refused("wouldBreak(" + force + ", 0, -1)", Check.INDEX, () -> x.wouldBreak(force, 0, -1));
            Check.refused("wouldDrift(" + force + ", 4, 0)", Check.INDEX, () -> x.wouldDrift(force, 4, 0));
            Check.refused("wouldDrift(" + force + ", 0, -1)", Check.INDEX, () -> x.wouldDrift(force, 0, -1));
        }
    }

    private static void hourAheadOfTheRest() {
        Check.edge("Section 6", "the one that comes first in the method's list is thrown (hours)");
        BuoyString x = Check.usedString();
        for (int hour : new int[] {-1, 2, LEAST, MOST}) {
            Check.refused("hour(" + hour + ", 5)", Check.INDEX, () -> x.hour(hour, 5));
            Check.refused("level(" + hour + ")", Check.INDEX, () -> x.level(hour));
            Check.refused("tide(" + hour + ")", Check.INDEX, () -> x.tide(hour));
            Check.refused("value(" + hour + ", 3)", Check.INDEX, () -> x.value(hour, 3));
            Check.refused("levelWithout(" + hour + ", -1)", Check.INDEX, () -> x.levelWithout(hour, -1));
        }
        Check.play(x, "hour;");
        Check.refused("value(2, 4) of an hour without reports", Check.INDEX, () -> x.value(2, 4));
    }

    private static void slotAheadOfState() {
        Check.edge("Section 6", "the one that comes first in the method's list is thrown (saved states)");
        BuoyString x = new BuoyString();
        Check.refused("restore(2) when nothing is saved", Check.INDEX, () -> x.restore(2));
        Check.refused("restore(-1) when nothing is saved", Check.INDEX, () -> x.restore(-1));
        Check.refused("restore(1) when nothing is saved", Check.STATE, () -> x.restore(1));
    }

    private static void exceptionsAheadOfReasons() {
        Check.edge("Section 6", "Exceptions come ahead of reasons.");
        BuoyString x = Check.loaded(Check.setupOf(2) + "stock 99999;");
        Check.refused("addStock(10000) to a full STOCK", Check.ARGUMENT, () -> x.addStock(10000));
        Check.refused("addStock(greatest) to a full STOCK", Check.ARGUMENT, () -> x.addStock(MOST));
        Check.refused("addStock(0) to a full STOCK", Check.ARGUMENT, () -> x.addStock(0));
        Check.refused("remake(1) when nothing is worn", Check.INDEX, () -> x.remake(1));
        Check.refused("haul(2) when none is dragged", Check.INDEX, () -> x.haul(2));
        Check.refused("remakeBy(100) when there is no plan", Check.ARGUMENT, () -> x.remakeBy(100));
        Check.due("no refusal was counted", Check.accounts(x), "0 0 0 0 0");
    }

    private static void noSuchBuoy() {
        Check.edge("Section 6", "An IndexOutOfBoundsException is thrown for a buoy");
        BuoyString x = Check.usedString();
        for (int b : new int[] {-1, 4, 10, 32, LEAST, MOST}) {
            Check.refused("buoy(" + b + ", 0)", Check.INDEX, () -> x.buoy(b, 0));
            Check.refused("value(0, " + b + ")", Check.INDEX, () -> x.value(0, b));
            Check.refused("why(0, " + b + ")", Check.INDEX, () -> x.why(0, b));
            Check.refused("segmentOf(" + b + ")", Check.INDEX, () -> x.segmentOf(b));
            Check.refused("wouldBreak(1, " + b + ", 3)", Check.INDEX, () -> x.wouldBreak(1, b, 3));
            Check.refused("wouldBreak(1, 0, " + b + ")", Check.INDEX, () -> x.wouldBreak(1, 0, b));
            Check.refused("wouldDrift(1, " + b + ", 3)", Check.INDEX, () -> x.wouldDrift(1, b, 3));
            Check.refused("wouldDrift(1, 0, " + b + ")", Check.INDEX, () -> x.wouldDrift(1, 0, b));
            Check.refused("report(" + b + ", 0)", Check.INDEX, () -> x.report(b, 0));
            Check.refused("storm(1, " + b + ", 3)", Check.INDEX, () -> x.storm(1, b, 3));
            Check.refused("storm(1, 0, " + b + ")", Check.INDEX, () -> x.storm(1, 0, b));
            Check.refused("haul(" + b + ")", Check.INDEX, () -> x.haul(b));
            Check.refused("setOffset(" + b + ", 0)", Check.INDEX, () -> x.setOffset(b, 0));
            Check.refused("setHold(" + b + ", 0)", Check.INDEX, () -> x.setHold(b, 0));
        }
    }

    private static void noSuchRope() {
        Check.edge("Section 6", "An IndexOutOfBoundsException is thrown for a buoy, a rope");
        BuoyString x = Check.usedString();
        for (int k : new int[] {-1, 3, 4, 9, 32, LEAST, MOST}) {
            Check.refused("rope(" + k + ", 0)", Check.INDEX, () -> x.rope(k, 0));
            Check.refused("remake(" + k + ")", Check.INDEX, () -> x.remake(k));
        }
    }

    private static void noSuchSavedState() {
        Check.edge("Section 6", "a rope or a saved state that does not exist");
        BuoyString x = Check.usedString();
        x.save(1);
        for (int slot : new int[] {-1, 2, 32, LEAST, MOST}) {
            Check.refused("save(" + slot + ")", Check.INDEX, () -> x.save(slot));
            Check.refused("restore(" + slot + ")", Check.INDEX, () -> x.restore(slot));
        }
    }

    private static void noSuchHour() {
        Check.edge("Section 6", "and for an hour that is not kept");
        BuoyString x = Check.stringOf(2);
        Check.play(x, "hour 0 1;".repeat(30));
        for (int hour : new int[] {-1, 0, 5, 30, LEAST, MOST}) {
            Check.refused("hour(" + hour + ", 0)", Check.INDEX, () -> x.hour(hour, 0));
            Check.refused("level(" + hour + ")", Check.INDEX, () -> x.level(hour));
            Check.refused("value(" + hour + ", 0)", Check.INDEX, () -> x.value(hour, 0));
            Check.refused("why(" + hour + ", 0)", Check.INDEX, () -> x.why(hour, 0));
            Check.refused("tide(" + hour + ")", Check.INDEX, () -> x.tide(hour));
            Check.refused("agreement(" + hour + ")", Check.INDEX, () -> x.agreement(hour));
            Check.refused("levelWithout(" + hour + ", 0)", Check.INDEX, () -> x.levelWithout(hour, 0));
            Check.refused("needed(" + hour + ")", Check.INDEX, () -> x.needed(hour));
        }
        Check.due("the earliest and the latest", x.level(6) + " " + x.level(29), "1 1");
    }
}
