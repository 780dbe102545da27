import java.util.NoSuchElementException;

/**
 * A string of buoys that measure the tide. ../shared/DOC.md says what it does; the numbers (1) to (8)
 * in the comments are the steps of its section 2.
 */
public final class BuoyString {
    public static final int NONE = -1;

    private static final int MOST_BUOYS = 10;
    private static final int KEPT_HOURS = 24;
    private static final int MOST_UNDOS = 8;
    private static final int SLOTS = 2;
    private static final int MOST_FORCE = 99;
    private static final int MOST_REPORT = 9999;
    private static final int MOST_OFFSET = 99;
    private static final int MOST_HOLD = 99;
    private static final int MOST_STOCK = 99999;
    private static final int MOST_ADDED = 9999;
    private static final int MOST_TOLERANCE = 999;
    private static final int MOST_LIMIT = 9;
    private static final int MOST_CALM = 9;
    private static final int MOST_HOME = 9999;
    private static final int MOST_VOTE = 9;
    private static final int MOST_STRENGTH = 99;
    private static final int USUAL_STRENGTH = 10;
    private static final int MOST_TEXT = 500;
    private static final int MOST_COMMANDS = 40;
    // 24 hours of at most 11 signs, "=", 6 signs and a space
    private static final int MOST_OUTPUT = 500;

    private static final int TRUSTED = 0;
    private static final int SUSPECT = 1;
    private static final int DRAGGED = 2;

    private static final int REASON_NOT_NEEDED = 1;
    private static final int REASON_STOCK_TOO_SMALL = 2;
    private static final int REASON_NO_PLAN = 3;
    private static final int REASON_STOCK_TOO_LARGE = 4;

    private static final int WRONG_TOKEN = 1;
    private static final int WRONG_RANGE = 2;
    private static final int WRONG_ORDER = 3;
    private static final int TOO_MANY = 4;
    private static final int TOO_FEW_BUOYS = 5;

    private static final int END = 0;
    private static final int NUMBER = 1;
    private static final int MINUS = 2;
    private static final int SEMICOLON = 3;
    private static final int UNKNOWN = 4;
    private static final int GAP = 5;
    private static final int WORD = 6;
    private static final int WORD_TERMS = 7;
    private static final int WORD_BUOY = 8;
    private static final int WORD_ROPE = 9;
    private static final int WORD_STOCK = 10;
    private static final int WORD_HOUR = 11;
    private static final int WORD_STORM = 12;
    private static final int WORD_REMAKE = 13;
    private static final int WORD_PLAN = 14;
    private static final int WORD_HAUL = 15;

    private final State state = new State();
    private final State draft = new State();
    private final State[] past = new State[MOST_UNDOS];
    private int pastCount = 0;
    private int pastNext = 0;
    private final State[] saved = new State[SLOTS];
    private int savedSlots = 0;
    private final int[] accounts = new int[5];
    private final Tally tally = new Tally();
    private final int[] valuesNow = new int[MOST_BUOYS];
    private final Reader reader = new Reader();
    private final Script script = new Script();
    private int latestCode = 0;
    private int latestPosition = NONE;
    private final int[] written = new int[MOST_OUTPUT];
    private int writtenLength = 0;

    public BuoyString() {
        for (int i = 0; i < MOST_UNDOS; i++) {
            past[i] = new State();
        }
        for (int i = 0; i < SLOTS; i++) {
            saved[i] = new State();
        }
        state.clear();
        state.tolerance = 20;
        state.limit = 3;
        state.calm = 2;
        state.fleet.add(0, 1, 9, 0);
        state.fleet.add(100, 1, 9, 0);
    }

    // ---- texts

    public int append(int a, int b, int c, int d, int e) throws IllegalStateException {
        int added = bytesIn(a) + bytesIn(b) + bytesIn(c) + bytesIn(d) + bytesIn(e);
        if (reader.length + added > MOST_TEXT) {
            throw new IllegalStateException("the text would be too long");
        }
        reader.addBytes(a);
        reader.addBytes(b);
        reader.addBytes(c);
        reader.addBytes(d);
        reader.addBytes(e);
        return reader.length;
    }

    public int load() {
        readSetup();
        if (!closeText()) {
            return NONE;
        }
        draft.came = draft.stock;
        state.copyFrom(draft);
        pastCount = 0;
        return state.fleet.count;
    }

    public int play() {
        readScript();
        if (!closeText()) {
            return NONE;
        }
        int done = 0;
        while (done < script.count && runCommand(done)) {
            done++;
        }
        return done;
    }

    public int errorCode() {
        return latestCode;
    }

    public int errorPosition() {
        return latestPosition;
    }

    // ---- what there is

    public int size(int what) throws IllegalArgumentException {
        switch (what) {
            case 0:
                return state.fleet.count;
            case 1:
                return state.ended;
            case 2:
                return state.ended - state.firstKept();
            case 3:
                return Integer.bitCount(state.fleet.membersIn(TRUSTED));
            case 4:
                return Integer.bitCount(state.fleet.membersIn(SUSPECT));
            case 5:
                return Integer.bitCount(state.fleet.membersIn(DRAGGED));
            case 6:
                return Integer.bitCount(state.ropes.broken);
            case 7:
                return state.stock;
            case 8:
                return state.tolerance;
            case 9:
                return state.limit;
            case 10:
                return state.calm;
            case 11:
                return state.storms;
            case 12:
                return pastCount;
            case 13:
                return hoursWithLevel();
            case 14:
                return state.retold;
            case 15:
                return state.came;
            case 16:
                return state.used;
            default:
                throw new IllegalArgumentException("what is out of range");
        }
    }

    public int buoy(int buoy, int what) throws IndexOutOfBoundsException, IllegalArgumentException {
        checkBuoy(buoy);
        Fleet fleet = state.fleet;
        switch (what) {
            case 0:
                return fleet.home[buoy];
            case 1:
                return fleet.vote[buoy];
            case 2:
                return fleet.hold[buoy];
            case 3:
                return fleet.offset[buoy];
            case 4:
                return fleet.trust[buoy];
            case 5:
                return fleet.strikes[buoy];
            case 6:
                return fleet.agreed[buoy];
            case 7:
                return fleet.since[buoy];
            case 8:
                return has(fleet.reported, buoy) ? 1 : 0;
            case 9:
                return fleet.reports[buoy];
            default:
                throw new IllegalArgumentException("what is out of range");
        }
    }

    public int rope(int rope, int what) throws IndexOutOfBoundsException, IllegalArgumentException {
        checkRope(rope);
        switch (what) {
            case 0:
                return state.fleet.distanceBehind(rope);
            case 1:
                return state.ropes.strength[rope];
            case 2:
                return state.ropes.wear[rope];
            case 3:
                return has(state.ropes.broken, rope) ? 1 : 0;
            default:
                throw new IllegalArgumentException("what is out of range");
        }
    }

    public int account(int what) throws IllegalArgumentException {
        if (what < 0 || what >= accounts.length) {
            throw new IllegalArgumentException("what is out of range");
        }
        return accounts[what];
    }

    // ---- kept hours

    public int hour(int hour, int what) throws IndexOutOfBoundsException, IllegalArgumentException {
        int row = rowOfKept(hour);
        Hours hours = state.hours;
        switch (what) {
            case 0:
                return hours.voters[row];
            case 1:
                return hours.supporters[row];
            case 2:
                return hours.hasLevel[row];
            case 3:
                return Integer.bitCount(hours.reported[row]);
            case 4:
                return hours.takenOut[row];
            default:
                throw new IllegalArgumentException("what is out of range");
        }
    }

    public int level(int hour) throws IndexOutOfBoundsException, NoSuchElementException {
        int row = rowOfKept(hour);
        if (state.hours.hasLevel[row] == 0) {
            throw new NoSuchElementException("the hour has no level");
        }
        return state.hours.levels[row];
    }

    public int value(int hour, int buoy) throws IndexOutOfBoundsException, NoSuchElementException {
        int row = rowOfKept(hour);
        checkBuoy(buoy);
        if (!has(state.hours.reported[row], buoy)) {
            throw new NoSuchElementException("the buoy did not report");
        }
        return state.hours.values[row * MOST_BUOYS + buoy];
    }

    public int why(int hour, int buoy) throws IndexOutOfBoundsException {
        int row = rowOfKept(hour);
        checkBuoy(buoy);
        Hours hours = state.hours;
        if (!has(hours.reported[row], buoy)) {
            return 1;
        }
        if (has(hours.suspects[row], buoy)) {
            return 2;
        }
        if (has(hours.dragged[row], buoy)) {
            return 3;
        }
        if (has(hours.takenOut[row], buoy)) {
            return 5;
        }
        if (hours.hasLevel[row] == 0) {
            return 6;
        }
        return has(hours.supporters[row], buoy) ? 0 : 4;
    }

    public int tide(int hour) throws IndexOutOfBoundsException, NoSuchElementException {
        int row = rowOfKept(hour);
        int before = rowWithLevelAhead(hour);
        if (state.hours.hasLevel[row] == 0 || before == NONE) {
            throw new NoSuchElementException("there are no two levels to compare");
        }
        int now = state.hours.levels[row];
        int then = state.hours.levels[before];
        return now > then ? 1 : now < then ? -1 : 0;
    }

    public int extreme(boolean isLeast) {
        int best = NONE;
        int bestLevel = 0;
        for (int hour = state.firstKept(); hour < state.ended; hour++) {
            int row = state.rowOf(hour);
            if (state.hours.hasLevel[row] == 1) {
                int level = state.hours.levels[row];
                if (best == NONE || (isLeast ? level < bestLevel : level > bestLevel)) {
                    best = hour;
                    bestLevel = level;
                }
            }
        }
        return best;
    }

    public double meanLevel() {
        int number = hoursWithLevel();
        if (number == 0) {
            return 0.0;
        }
        int sum = 0;
        for (int hour = state.firstKept(); hour < state.ended; hour++) {
            int row = state.rowOf(hour);
            if (state.hours.hasLevel[row] == 1) {
                sum += state.hours.levels[row];
            }
        }
        return (double) sum / (double) number;
    }

    public float agreement(int hour) throws IndexOutOfBoundsException {
        int row = rowOfKept(hour);
        int all = state.fleet.votesOf(state.hours.voters[row]);
        if (all == 0) {
            return 0.0f;
        }
        return (float) state.fleet.votesOf(state.hours.supporters[row]) / (float) all;
    }

    // ---- what would be; nothing changes

    public int levelNow() throws NoSuchElementException {
        Fleet fleet = state.fleet;
        fleet.tellValues(valuesNow, 0);
        tally.count(fleet.reported & fleet.membersIn(TRUSTED), fleet.vote, valuesNow, 0, state.tolerance);
        if (!tally.hasLevel) {
            throw new NoSuchElementException("the hour would have no level");
        }
        return tally.level;
    }

    public int levelWithout(int hour, int buoys) throws IndexOutOfBoundsException, NoSuchElementException {
        int row = rowOfKept(hour);
        state.countRow(row, state.hours.voters[row] & ~buoys, tally);
        if (!tally.hasLevel) {
            throw new NoSuchElementException("there would be no level");
        }
        return tally.level;
    }

    public int needed(int hour) throws IndexOutOfBoundsException {
        int row = rowOfKept(hour);
        int voters = state.hours.voters[row];
        int found = 0;
        for (int b = 0; b < state.fleet.count; b++) {
            if (has(voters, b)) {
                state.countRow(row, voters & ~(1 << b), tally);
                if (!tally.hasLevel) {
                    found |= 1 << b;
                }
            }
        }
        return found;
    }

    public int segments() {
        return Integer.bitCount(state.ropes.broken) + 1;
    }

    public int segmentOf(int buoy) throws IndexOutOfBoundsException {
        checkBuoy(buoy);
        int segment = 0;
        for (int b = 0; b < state.fleet.count; b++) {
            segment |= 1 << b;
            if (state.endsSegment(b, state.ropes.broken)) {
                if (has(segment, buoy)) {
                    return segment;
                }
                segment = 0;
            }
        }
        return segment;
    }

    public int weakest() {
        int best = NONE;
        int bestRest = 0;
        for (int k = 0; k < state.fleet.count - 1; k++) {
            int rest = state.ropes.strength[k] - state.ropes.wear[k];
            if (!has(state.ropes.broken, k) && (best == NONE || rest < bestRest)) {
                best = k;
                bestRest = rest;
            }
        }
        return best;
    }

    public int wouldBreak(int force, int first, int last) throws IndexOutOfBoundsException, IllegalArgumentException {
        checkStorm(force, first, last);
        return state.breaking(force, first, last);
    }

    public int wouldDrift(int force, int first, int last) throws IndexOutOfBoundsException, IllegalArgumentException {
        checkStorm(force, first, last);
        return state.drifting(force, first, last);
    }

    public int leastStorm() {
        for (int force = 1; force <= MOST_FORCE; force++) {
            if (state.drifting(force, 0, state.fleet.count - 1) != 0) {
                return force;
            }
        }
        return NONE;
    }

    public int lacks(int force) throws IllegalArgumentException {
        checkForce(force);
        return state.lacking(force, state.ropes.broken);
    }

    public int plan(int force) throws IllegalArgumentException {
        checkForce(force);
        return state.planFor(force);
    }

    public int planLength(int force) throws IllegalArgumentException {
        checkForce(force);
        int ropes = state.planFor(force);
        return ropes == NONE ? NONE : state.lengthOf(ropes);
    }

    // ---- acts: a number as told, or minus the reason

    public int report(int buoy, int report) throws IndexOutOfBoundsException, IllegalArgumentException {
        checkBuoy(buoy);
        if (report < -MOST_REPORT || report > MOST_REPORT) {
            throw new IllegalArgumentException("the report is out of range");
        }
        beginAct();
        state.fleet.reported |= 1 << buoy;
        state.fleet.reports[buoy] = report;
        return Integer.bitCount(state.fleet.reported);
    }

    public int endHour() {
        beginAct();
        int row = state.openRow();
        state.tellLevel(row, tally);
        int fallen = 0;
        if (state.hours.hasLevel[row] == 1) {
            state.countStrikes(row);
            state.countAgreed(row);
            state.trustAgain();
            fallen = state.dragVoters(row);
        }
        state.ended++;
        state.takeOut(fallen, tally);
        state.fleet.forgetReports();
        return Integer.bitCount(fallen);
    }

    public int storm(int force, int first, int last) throws IndexOutOfBoundsException, IllegalArgumentException {
        checkStorm(force, first, last);
        beginAct();
        return state.blow(force, first, last);
    }

    public int remake(int rope) throws IndexOutOfBoundsException {
        checkRope(rope);
        if (!has(state.ropes.broken, rope) && state.ropes.wear[rope] == 0) {
            return refuse(REASON_NOT_NEEDED);
        }
        if (state.fleet.distanceBehind(rope) > state.stock) {
            return refuse(REASON_STOCK_TOO_SMALL);
        }
        beginAct();
        state.renew(1 << rope);
        return state.stock;
    }

    public int remakeBy(int force) throws IllegalArgumentException {
        checkForce(force);
        int ropes = state.planFor(force);
        if (ropes == NONE) {
            return refuse(REASON_NO_PLAN);
        }
        beginAct();
        state.renew(ropes);
        return Integer.bitCount(ropes);
    }

    public int haul(int buoy) throws IndexOutOfBoundsException {
        checkBuoy(buoy);
        if (state.fleet.trust[buoy] != DRAGGED) {
            return refuse(REASON_NOT_NEEDED);
        }
        beginAct();
        state.fleet.putUnderSuspicion(buoy);
        return Integer.bitCount(state.fleet.membersIn(DRAGGED));
    }

    public int addStock(int ropes) throws IllegalArgumentException {
        if (ropes < 1 || ropes > MOST_ADDED) {
            throw new IllegalArgumentException("ropes is out of range");
        }
        if (state.stock + ropes > MOST_STOCK) {
            return refuse(REASON_STOCK_TOO_LARGE);
        }
        beginAct();
        state.stock += ropes;
        state.came += ropes;
        return state.stock;
    }

    public int setOffset(int buoy, int offset) throws IndexOutOfBoundsException, IllegalArgumentException {
        checkBuoy(buoy);
        if (offset < -MOST_OFFSET || offset > MOST_OFFSET) {
            throw new IllegalArgumentException("the offset is out of range");
        }
        beginAct();
        int before = state.fleet.offset[buoy];
        state.fleet.offset[buoy] = offset;
        return before + MOST_OFFSET;
    }

    public int setHold(int buoy, int hold) throws IndexOutOfBoundsException, IllegalArgumentException {
        checkBuoy(buoy);
        if (hold < 0 || hold > MOST_HOLD) {
            throw new IllegalArgumentException("the hold is out of range");
        }
        beginAct();
        int before = state.fleet.hold[buoy];
        state.fleet.hold[buoy] = hold;
        return before;
    }

    public int setTerms(int tolerance, int limit, int calm) throws IllegalArgumentException {
        if (tolerance < 0 || tolerance > MOST_TOLERANCE || limit < 1 || limit > MOST_LIMIT
                || calm < 1 || calm > MOST_CALM) {
            throw new IllegalArgumentException("a term is out of range");
        }
        beginAct();
        int before = state.tolerance;
        state.tolerance = tolerance;
        state.limit = limit;
        state.calm = calm;
        return before;
    }

    // ---- output

    public int writeString() {
        writtenLength = 0;
        int count = state.fleet.count;
        for (int b = 0; b < count; b++) {
            putNumber(b);
            put(letterOf(state.fleet.trust[b]));
            if (b < count - 1) {
                put(has(state.ropes.broken, b) ? ' ' : '-');
            }
        }
        return writtenLength;
    }

    public int writeHours() {
        writtenLength = 0;
        for (int hour = state.firstKept(); hour < state.ended; hour++) {
            int row = state.rowOf(hour);
            if (writtenLength > 0) {
                put(' ');
            }
            putNumber(hour);
            if (state.hours.hasLevel[row] == 1) {
                put('=');
                putNumber(state.hours.levels[row]);
            } else {
                put('?');
            }
        }
        return writtenLength;
    }

    public int output(int index) throws IndexOutOfBoundsException {
        if (index < 0 || index >= writtenLength) {
            throw new IndexOutOfBoundsException("no such byte");
        }
        return written[index];
    }

    // ---- undo, saved states

    public int undo() throws IllegalStateException {
        if (pastCount == 0) {
            throw new IllegalStateException("no act to undo");
        }
        pastNext = Math.floorMod(pastNext - 1, MOST_UNDOS);
        pastCount--;
        state.copyFrom(past[pastNext]);
        return pastCount;
    }

    public int save(int slot) throws IndexOutOfBoundsException {
        checkSlot(slot);
        saved[slot].copyFrom(state);
        savedSlots |= 1 << slot;
        return state.ended;
    }

    public int restore(int slot) throws IndexOutOfBoundsException, IllegalStateException {
        checkSlot(slot);
        if (!has(savedSlots, slot)) {
            throw new IllegalStateException("nothing is saved there");
        }
        state.copyFrom(saved[slot]);
        pastCount = 0;
        return state.fleet.count;
    }

    // ---- what the calls share

    private static boolean has(int set, int member) {
        return (set >> member & 1) == 1;
    }

    private void checkBuoy(int buoy) {
        if (buoy < 0 || buoy >= state.fleet.count) {
            throw new IndexOutOfBoundsException("no such buoy");
        }
    }

    private void checkRope(int rope) {
        if (rope < 0 || rope >= state.fleet.count - 1) {
            throw new IndexOutOfBoundsException("no such rope");
        }
    }

    private void checkSlot(int slot) {
        if (slot < 0 || slot >= SLOTS) {
            throw new IndexOutOfBoundsException("no such saved state");
        }
    }

    private void checkForce(int force) {
        if (force < 1 || force > MOST_FORCE) {
            throw new IllegalArgumentException("the force is out of range");
        }
    }

    private void checkStorm(int force, int first, int last) {
        checkBuoy(first);
        checkBuoy(last);
        checkForce(force);
        if (last < first) {
            throw new IllegalArgumentException("the last buoy is ahead of the first one");
        }
    }

    private int rowOfKept(int hour) {
        if (hour < state.firstKept() || hour >= state.ended) {
            throw new IndexOutOfBoundsException("the hour is not kept");
        }
        return state.rowOf(hour);
    }

    private int rowWithLevelAhead(int hour) {
        for (int h = hour - 1; h >= state.firstKept(); h--) {
            int row = state.rowOf(h);
            if (state.hours.hasLevel[row] == 1) {
                return row;
            }
        }
        return NONE;
    }

    private int hoursWithLevel() {
        int number = 0;
        for (int hour = state.firstKept(); hour < state.ended; hour++) {
            number += state.hours.hasLevel[state.rowOf(hour)];
        }
        return number;
    }

    /** Is called when an act is sure to be done, ahead of its first change. */
    private void beginAct() {
        past[pastNext].copyFrom(state);
        pastNext = (pastNext + 1) % MOST_UNDOS;
        pastCount = Math.min(pastCount + 1, MOST_UNDOS);
        accounts[0]++;
    }

    private int refuse(int reason) {
        if (reason > 0 && reason < accounts.length) {
            accounts[reason]++;
        }
        return -reason;
    }

    private static char letterOf(int trust) {
        return trust == TRUSTED ? 'T' : trust == SUSPECT ? 'S' : 'D';
    }

    private void put(int sign) {
        if (writtenLength < written.length) {
            written[writtenLength] = sign;
            writtenLength++;
        }
    }

    private void putNumber(int number) {
        int rest = number;
        if (rest < 0) {
            put('-');
            rest = -rest;
        }
        boolean isBegun = false;
        for (int power = 1000000000; power >= 1; power /= 10) {
            int digit = rest / power % 10;
            isBegun = isBegun || digit > 0 || power == 1;
            if (isBegun) {
                put('0' + digit);
            }
        }
    }

    private static int bytesIn(int four) {
        int number = 0;
        for (int shift = 24; shift >= 0; shift -= 8) {
            if ((four >> shift & 255) != 0) {
                number++;
            }
        }
        return number;
    }

    // ---- reading setups and scripts

    /** Takes over the errors of the text and empties it; tells whether it had none. */
    private boolean closeText() {
        latestCode = reader.code;
        latestPosition = reader.position;
        reader.length = 0;
        return latestCode == 0;
    }

    /** Reads the text as a setup into the draft, so that an error leaves the string as it is. */
    private void readSetup() {
        draft.clear();
        reader.scan();
        reader.takeKind(WORD_TERMS);
        draft.tolerance = reader.takeNumber(0, MOST_TOLERANCE);
        draft.limit = reader.takeNumber(1, MOST_LIMIT);
        draft.calm = reader.takeNumber(1, MOST_CALM);
        reader.takeKind(SEMICOLON);
        for (int n = 0; n < MOST_TEXT && reader.hasMore(); n++) {
            switch (reader.kindNow()) {
                case WORD_BUOY:
                    readBuoy();
                    break;
                case WORD_ROPE:
                    readRope();
                    break;
                case WORD_STOCK:
                    reader.takeKind(WORD_STOCK);
                    draft.stock = reader.takeNumber(0, MOST_STOCK);
                    break;
                default:
                    reader.fail(WRONG_TOKEN);
                    break;
            }
            reader.takeKind(SEMICOLON);
        }
        if (draft.fleet.count < 2) {
            reader.fail(TOO_FEW_BUOYS);
        }
    }

    private void readBuoy() {
        if (draft.fleet.count >= MOST_BUOYS) {
            reader.fail(TOO_MANY);
        }
        reader.takeKind(WORD_BUOY);
        int home = reader.lookNumber(0, MOST_HOME);
        if (home <= draft.fleet.lastHome()) {
            reader.fail(WRONG_ORDER);
        }
        reader.takeKind(NUMBER);
        int vote = reader.takeNumber(1, MOST_VOTE);
        int hold = reader.takeNumber(0, MOST_HOLD);
        int offset = reader.isAtSigned() ? reader.takeSigned(MOST_OFFSET) : 0;
        draft.fleet.add(home, vote, hold, offset);
    }

    private void readRope() {
        reader.takeKind(WORD_ROPE);
        int rope = reader.takeNumber(0, draft.fleet.count - 2);
        draft.ropes.strengthen(rope, reader.takeNumber(1, MOST_STRENGTH));
    }

    private void readScript() {
        script.clear();
        reader.scan();
        int buoys = state.fleet.count;
        for (int n = 0; n < MOST_TEXT && reader.hasMore(); n++) {
            switch (takeCommandWord()) {
                case WORD_HOUR:
                    readReports();
                    break;
                case WORD_STORM:
                    script.add(reader.takeNumber(1, MOST_FORCE));
                    readHitBuoys();
                    break;
                case WORD_REMAKE:
                    script.add(reader.takeNumber(0, buoys - 2));
                    break;
                case WORD_PLAN:
                    script.add(reader.takeNumber(1, MOST_FORCE));
                    break;
                case WORD_HAUL:
                    script.add(reader.takeNumber(0, buoys - 1));
                    break;
                case WORD_STOCK:
                    script.add(reader.takeNumber(1, MOST_ADDED));
                    break;
                default:
                    break;
            }
            reader.takeKind(SEMICOLON);
        }
    }

    private int takeCommandWord() {
        int kind = reader.kindNow();
        if (!isCommand(kind)) {
            reader.fail(WRONG_TOKEN);
        } else if (script.count >= MOST_COMMANDS) {
            reader.fail(TOO_MANY);
        }
        reader.takeKind(kind);
        script.begin(kind);
        return kind;
    }

    private static boolean isCommand(int kind) {
        return kind == WORD_HOUR || kind == WORD_STORM || kind == WORD_REMAKE || kind == WORD_PLAN
                || kind == WORD_HAUL || kind == WORD_STOCK;
    }

    private void readReports() {
        int told = 0;
        for (int n = 0; n <= MOST_BUOYS && reader.hasMore() && reader.kindNow() == NUMBER; n++) {
            int buoy = reader.lookNumber(0, state.fleet.count - 1);
            if (has(told, buoy)) {
                reader.fail(WRONG_ORDER);
            }
            reader.takeKind(NUMBER);
            told |= 1 << buoy;
            script.add(buoy);
            script.add(reader.takeSigned(MOST_REPORT));
        }
    }

    private void readHitBuoys() {
        int most = state.fleet.count - 1;
        int first = reader.takeNumber(0, most);
        int last = reader.lookNumber(0, most);
        if (last < first) {
            reader.fail(WRONG_ORDER);
        }
        reader.takeKind(NUMBER);
        script.add(first);
        script.add(last);
    }

    /** Does a command of the script; tells whether it was done, not refused. */
    private boolean runCommand(int command) {
        int a = script.argument(command, 0);
        switch (script.kindOf(command)) {
            case WORD_HOUR:
                for (int i = 0; i < script.arguments(command); i += 2) {
                    report(script.argument(command, i), script.argument(command, i + 1));
                }
                return endHour() >= 0;
            case WORD_STORM:
                return storm(a, script.argument(command, 1), script.argument(command, 2)) >= 0;
            case WORD_REMAKE:
                return remake(a) >= 0;
            case WORD_PLAN:
                return remakeBy(a) >= 0;
            case WORD_HAUL:
                return haul(a) >= 0;
            case WORD_STOCK:
                return addStock(a) >= 0;
            default:
                return false;
        }
    }

    /** The buoys, and what they report in the hour that runs. */
    private static final class Fleet {
        int count = 0;
        int reported = 0;
        final int[] home = new int[MOST_BUOYS];
        final int[] vote = new int[MOST_BUOYS];
        final int[] hold = new int[MOST_BUOYS];
        final int[] offset = new int[MOST_BUOYS];
        final int[] trust = new int[MOST_BUOYS];
        final int[] strikes = new int[MOST_BUOYS];
        final int[] agreed = new int[MOST_BUOYS];
        final int[] since = new int[MOST_BUOYS];
        // 0 for a buoy that has not reported
        final int[] reports = new int[MOST_BUOYS];

        void copyFrom(Fleet other) {
            count = other.count;
            reported = other.reported;
            System.arraycopy(other.home, 0, home, 0, MOST_BUOYS);
            System.arraycopy(other.vote, 0, vote, 0, MOST_BUOYS);
            System.arraycopy(other.hold, 0, hold, 0, MOST_BUOYS);
            System.arraycopy(other.offset, 0, offset, 0, MOST_BUOYS);
            System.arraycopy(other.trust, 0, trust, 0, MOST_BUOYS);
            System.arraycopy(other.strikes, 0, strikes, 0, MOST_BUOYS);
            System.arraycopy(other.agreed, 0, agreed, 0, MOST_BUOYS);
            System.arraycopy(other.since, 0, since, 0, MOST_BUOYS);
            System.arraycopy(other.reports, 0, reports, 0, MOST_BUOYS);
        }

        void add(int itsHome, int itsVote, int itsHold, int itsOffset) {
            if (count >= MOST_BUOYS) {
                return;
            }
            home[count] = itsHome;
            vote[count] = itsVote;
            hold[count] = itsHold;
            offset[count] = itsOffset;
            trust[count] = TRUSTED;
            strikes[count] = 0;
            agreed[count] = 0;
            since[count] = NONE;
            reports[count] = 0;
            count++;
        }

        int lastHome() {
            return count > 0 ? home[count - 1] : NONE;
        }

        /** The LENGTH of the rope from this buoy to the next one. */
        int distanceBehind(int buoy) {
            return buoy >= 0 && buoy + 1 < count ? home[buoy + 1] - home[buoy] : 0;
        }

        int membersIn(int itsTrust) {
            int set = 0;
            for (int b = 0; b < count; b++) {
                if (trust[b] == itsTrust) {
                    set |= 1 << b;
                }
            }
            return set;
        }

        int votesOf(int set) {
            int votes = 0;
            for (int b = 0; b < count; b++) {
                if (has(set, b)) {
                    votes += vote[b];
                }
            }
            return votes;
        }

        void tellValues(int[] into, int start) {
            for (int b = 0; b < count; b++) {
                if (start >= 0 && start + b < into.length) {
                    into[start + b] = has(reported, b) ? reports[b] - offset[b] : 0;
                }
            }
        }

        void forgetReports() {
            reported = 0;
            for (int b = 0; b < MOST_BUOYS; b++) {
                reports[b] = 0;
            }
        }

        void putUnderSuspicion(int buoy) {
            if (buoy < 0 || buoy >= count) {
                return;
            }
            trust[buoy] = SUSPECT;
            strikes[buoy] = 0;
            agreed[buoy] = 0;
            since[buoy] = NONE;
        }
    }

    /** Rope k joins the buoys k and k + 1. */
    private static final class Ropes {
        int broken = 0;
        final int[] strength = new int[MOST_BUOYS];
        final int[] wear = new int[MOST_BUOYS];

        void copyFrom(Ropes other) {
            broken = other.broken;
            System.arraycopy(other.strength, 0, strength, 0, MOST_BUOYS);
            System.arraycopy(other.wear, 0, wear, 0, MOST_BUOYS);
        }

        void strengthen(int rope, int itsStrength) {
            if (rope >= 0 && rope < MOST_BUOYS) {
                strength[rope] = itsStrength;
            }
        }

        void clear() {
            broken = 0;
            for (int k = 0; k < MOST_BUOYS; k++) {
                strength[k] = USUAL_STRENGTH;
                wear[k] = 0;
            }
        }
    }

    /** The kept hours: one row of each array for one hour, ten values a row. */
    private static final class Hours {
        final int[] voters = new int[KEPT_HOURS];
        final int[] supporters = new int[KEPT_HOURS];
        final int[] hasLevel = new int[KEPT_HOURS];
        final int[] levels = new int[KEPT_HOURS];
        final int[] reported = new int[KEPT_HOURS];
        final int[] suspects = new int[KEPT_HOURS];
        final int[] dragged = new int[KEPT_HOURS];
        final int[] takenOut = new int[KEPT_HOURS];
        final int[] values = new int[KEPT_HOURS * MOST_BUOYS];

        void copyFrom(Hours other) {
            System.arraycopy(other.voters, 0, voters, 0, KEPT_HOURS);
            System.arraycopy(other.supporters, 0, supporters, 0, KEPT_HOURS);
            System.arraycopy(other.hasLevel, 0, hasLevel, 0, KEPT_HOURS);
            System.arraycopy(other.levels, 0, levels, 0, KEPT_HOURS);
            System.arraycopy(other.reported, 0, reported, 0, KEPT_HOURS);
            System.arraycopy(other.suspects, 0, suspects, 0, KEPT_HOURS);
            System.arraycopy(other.dragged, 0, dragged, 0, KEPT_HOURS);
            System.arraycopy(other.takenOut, 0, takenOut, 0, KEPT_HOURS);
            System.arraycopy(other.values, 0, values, 0, KEPT_HOURS * MOST_BUOYS);
        }
    }

    /** What undo(), save() and restore() bring back, and how it changes. */
    private static final class State {
        final Fleet fleet = new Fleet();
        final Ropes ropes = new Ropes();
        final Hours hours = new Hours();
        int tolerance = 0;
        int limit = 1;
        int calm = 1;
        int stock = 0;
        int ended = 0;
        int storms = 0;
        int retold = 0;
        int came = 0;
        int used = 0;

        void copyFrom(State other) {
            fleet.copyFrom(other.fleet);
            ropes.copyFrom(other.ropes);
            hours.copyFrom(other.hours);
            tolerance = other.tolerance;
            limit = other.limit;
            calm = other.calm;
            stock = other.stock;
            ended = other.ended;
            storms = other.storms;
            retold = other.retold;
            came = other.came;
            used = other.used;
        }

        /** A string without buoys; the rows of the hours may stay, as no hour is kept. */
        void clear() {
            fleet.count = 0;
            fleet.forgetReports();
            ropes.clear();
            tolerance = 0;
            limit = 1;
            calm = 1;
            stock = 0;
            ended = 0;
            storms = 0;
            retold = 0;
            came = 0;
            used = 0;
        }

        int firstKept() {
            return Math.max(0, ended - KEPT_HOURS);
        }

        int rowOf(int hour) {
            return Math.floorMod(hour, KEPT_HOURS);
        }

        void countRow(int row, int voters, Tally tally) {
            tally.count(voters, fleet.vote, hours.values, row * MOST_BUOYS, tolerance);
        }

        void tellLevel(int row, Tally tally) {
            tally.count(hours.voters[row], fleet.vote, hours.values, row * MOST_BUOYS, tolerance);
            hours.supporters[row] = tally.supporters;
            hours.hasLevel[row] = tally.hasLevel ? 1 : 0;
            hours.levels[row] = tally.level;
        }

        /** Begins the row of the hour that ends, (1); it takes the place of the hour that is no more kept. */
        int openRow() {
            int row = rowOf(ended);
            fleet.tellValues(hours.values, row * MOST_BUOYS);
            hours.reported[row] = fleet.reported;
            hours.suspects[row] = fleet.membersIn(SUSPECT);
            hours.dragged[row] = fleet.membersIn(DRAGGED);
            hours.voters[row] = fleet.reported & fleet.membersIn(TRUSTED);
            hours.takenOut[row] = 0;
            return row;
        }

        void countStrikes(int row) {
            for (int b = 0; b < fleet.count; b++) {
                if (has(hours.supporters[row], b)) {
                    fleet.strikes[b] = 0;
                    fleet.since[b] = NONE;
                } else if (has(hours.voters[row], b)) {
                    if (fleet.strikes[b] == 0) {
                        fleet.since[b] = ended;
                    }
                    fleet.strikes[b]++;
                }
            }
        }

        void countAgreed(int row) {
            int watched = hours.suspects[row] & hours.reported[row];
            for (int b = 0; b < fleet.count; b++) {
                if (has(watched, b)) {
                    int gap = hours.values[row * MOST_BUOYS + b] - hours.levels[row];
                    fleet.agreed[b] = Math.abs(gap) <= tolerance ? fleet.agreed[b] + 1 : 0;
                }
            }
        }

        /** Counts those that did not report, too: CALM may have become less since they agreed. */
        void trustAgain() {
            for (int b = 0; b < fleet.count; b++) {
                if (fleet.trust[b] == SUSPECT && fleet.agreed[b] >= calm) {
                    fleet.trust[b] = TRUSTED;
                    fleet.agreed[b] = 0;
                }
            }
        }

        int dragVoters(int row) {
            int fallen = 0;
            for (int b = 0; b < fleet.count; b++) {
                if (has(hours.voters[row], b) && fleet.strikes[b] >= limit) {
                    fleet.trust[b] = DRAGGED;
                    fallen |= 1 << b;
                }
            }
            return fallen;
        }

        void takeOut(int fallen, Tally tally) {
            for (int hour = firstKept(); hour < ended; hour++) {
                int row = rowOf(hour);
                int out = hours.voters[row] & draggedSince(fallen, hour);
                if (out != 0) {
                    hours.voters[row] &= ~out;
                    hours.takenOut[row] |= out;
                    tellLevel(row, tally);
                    retold++;
                }
            }
        }

        int draggedSince(int fallen, int hour) {
            int set = 0;
            for (int b = 0; b < fleet.count; b++) {
                if (has(fallen, b) && fleet.since[b] <= hour) {
                    set |= 1 << b;
                }
            }
            return set;
        }

        boolean endsSegment(int buoy, int broken) {
            return buoy == fleet.count - 1 || has(broken, buoy);
        }

        int breaking(int force, int first, int last) {
            int set = 0;
            for (int k = 0; k < fleet.count - 1; k++) {
                boolean isHit = k >= first && k < last && !has(ropes.broken, k);
                if (isHit && ropes.wear[k] + force > ropes.strength[k]) {
                    set |= 1 << k;
                }
            }
            return set;
        }

        int drifting(int force, int first, int last) {
            int broken = ropes.broken | breaking(force, first, last);
            int all = 0;
            int segment = 0;
            int holds = 0;
            int hits = 0;
            for (int b = 0; b < fleet.count; b++) {
                segment |= 1 << b;
                holds += fleet.hold[b];
                hits += b >= first && b <= last ? 1 : 0;
                if (endsSegment(b, broken)) {
                    if (holds < force * hits) {
                        all |= segment;
                    }
                    segment = 0;
                    holds = 0;
                    hits = 0;
                }
            }
            return all;
        }

        int blow(int force, int first, int last) {
            int adrift = drifting(force, first, last);
            int torn = breaking(force, first, last);
            for (int k = 0; k < fleet.count - 1; k++) {
                if (k >= first && k < last && !has(ropes.broken, k)) {
                    ropes.wear[k] += force;
                }
            }
            ropes.broken |= torn;
            for (int b = 0; b < fleet.count; b++) {
                if (has(adrift, b) && fleet.trust[b] != DRAGGED) {
                    fleet.putUnderSuspicion(b);
                }
            }
            storms++;
            return adrift;
        }

        int lacking(int force, int broken) {
            int sum = 0;
            int lack = 0;
            for (int b = 0; b < fleet.count; b++) {
                lack += force - fleet.hold[b];
                if (endsSegment(b, broken)) {
                    sum += Math.max(0, lack);
                    lack = 0;
                }
            }
            return sum;
        }

        int lengthOf(int set) {
            int sum = 0;
            for (int k = 0; k < fleet.count - 1; k++) {
                if (has(set, k)) {
                    sum += fleet.distanceBehind(k);
                }
            }
            return sum;
        }

        /** Tries the sets from the least number on, so the first one of several equals stays. */
        int planFor(int force) {
            int best = NONE;
            int bestLength = 0;
            int sets = 1 << Math.max(0, fleet.count - 1);
            for (int set = 0; set < sets; set++) {
                if ((set & ~ropes.broken) == 0) {
                    int length = lengthOf(set);
                    boolean isBetter = best == NONE || length < bestLength
                            || length == bestLength && Integer.bitCount(set) < Integer.bitCount(best);
                    if (isBetter && length <= stock && lacking(force, ropes.broken & ~set) == 0) {
                        best = set;
                        bestLength = length;
                    }
                }
            }
            return best;
        }

        void renew(int set) {
            int length = lengthOf(set);
            for (int k = 0; k < fleet.count - 1; k++) {
                if (has(set, k)) {
                    ropes.wear[k] = 0;
                }
            }
            ropes.broken &= ~set;
            stock -= length;
            used += length;
        }
    }

    /** What (2) and (3) tell of some voters. */
    private static final class Tally {
        private static final int ABOVE_ALL_VALUES = 1000000;

        int supporters = 0;
        boolean hasLevel = false;
        int level = 0;
        // 0 for a buoy that is no voter
        private final int[] votes = new int[MOST_BUOYS];
        private final int[] values = new int[MOST_BUOYS];
        private int allVotes = 0;

        /** The value of buoy b is from[start + b]. */
        void count(int voters, int[] vote, int[] from, int start, int tolerance) {
            allVotes = 0;
            for (int b = 0; b < MOST_BUOYS; b++) {
                boolean isVoter = has(voters, b) && b < vote.length && start >= 0 && start + b < from.length;
                votes[b] = isVoter ? vote[b] : 0;
                values[b] = isVoter ? from[start + b] : 0;
                allVotes += votes[b];
            }
            weigh(middle(), tolerance);
        }

        private int middle() {
            int middle = ABOVE_ALL_VALUES;
            for (int b = 0; b < MOST_BUOYS; b++) {
                int votesUpTo = 0;
                for (int c = 0; c < MOST_BUOYS; c++) {
                    votesUpTo += values[c] <= values[b] ? votes[c] : 0;
                }
                if (votes[b] > 0 && values[b] < middle && 2 * votesUpTo >= allVotes) {
                    middle = values[b];
                }
            }
            return middle;
        }

        private void weigh(int middle, int tolerance) {
            supporters = 0;
            int support = 0;
            int sum = 0;
            for (int b = 0; b < MOST_BUOYS; b++) {
                if (votes[b] > 0 && Math.abs(values[b] - middle) <= tolerance) {
                    supporters |= 1 << b;
                    support += votes[b];
                    sum += votes[b] * values[b];
                }
            }
            hasLevel = support > 0 && 2 * support > allVotes;
            level = hasLevel ? Math.floorDiv(sum, support) : 0;
        }
    }

    /** The text buffer, its tokens, and the first error in it. */
    private static final class Reader {
        private static final int HUGE = 1000000;

        final int[] bytes = new int[MOST_TEXT];
        int length = 0;
        // one token more than bytes: the end of the text
        final int[] kinds = new int[MOST_TEXT + 1];
        final int[] starts = new int[MOST_TEXT + 1];
        final int[] numbers = new int[MOST_TEXT + 1];
        int at = 0;
        int code = 0;
        int position = NONE;

        void addBytes(int four) {
            for (int shift = 24; shift >= 0; shift -= 8) {
                int oneByte = four >> shift & 255;
                if (oneByte != 0 && length < MOST_TEXT) {
                    bytes[length] = oneByte;
                    length++;
                }
            }
        }

        void scan() {
            int tokens = 0;
            int before = GAP;
            for (int p = 0; p < length; p++) {
                int kind = kindOfByte(p);
                boolean goesOn = kind == before && (kind == WORD || kind == NUMBER);
                if (kind != GAP && !goesOn) {
                    kinds[tokens] = kind == WORD ? wordAt(p) : kind;
                    starts[tokens] = p;
                    numbers[tokens] = 0;
                    tokens++;
                }
                if (kind == NUMBER && tokens > 0) {
                    numbers[tokens - 1] = Math.min(HUGE, numbers[tokens - 1] * 10 + bytes[p] - '0');
                }
                before = kind;
            }
            kinds[tokens] = END;
            starts[tokens] = length;
            at = 0;
            code = 0;
            position = NONE;
        }

        private int kindOfByte(int p) {
            int oneByte = p >= 0 && p < length ? bytes[p] : ' ';
            if (oneByte >= 'a' && oneByte <= 'z') {
                return WORD;
            }
            if (oneByte >= '0' && oneByte <= '9') {
                return NUMBER;
            }
            if (oneByte == ' ' || oneByte == 10) {
                return GAP;
            }
            return oneByte == '-' ? MINUS : oneByte == ';' ? SEMICOLON : UNKNOWN;
        }

        private int wordAt(int start) {
            if (spells("terms", start)) {
                return WORD_TERMS;
            }
            if (spells("buoy", start)) {
                return WORD_BUOY;
            }
            if (spells("rope", start)) {
                return WORD_ROPE;
            }
            if (spells("stock", start)) {
                return WORD_STOCK;
            }
            if (spells("hour", start)) {
                return WORD_HOUR;
            }
            if (spells("storm", start)) {
                return WORD_STORM;
            }
            if (spells("remake", start)) {
                return WORD_REMAKE;
            }
            if (spells("plan", start)) {
                return WORD_PLAN;
            }
            return spells("haul", start) ? WORD_HAUL : UNKNOWN;
        }

        /** Tells whether the run of letters that begins here is this word. */
        private boolean spells(String word, int start) {
            int end = start + word.length();
            if (end > length || kindOfByte(end) == WORD) {
                return false;
            }
            for (int i = 0; i < word.length(); i++) {
                if (bytes[start + i] != word.charAt(i)) {
                    return false;
                }
            }
            return true;
        }

        boolean hasMore() {
            return code == 0 && kindNow() != END;
        }

        int kindNow() {
            return at >= 0 && at < kinds.length ? kinds[at] : END;
        }

        boolean isAtSigned() {
            return kindNow() == NUMBER || kindNow() == MINUS;
        }

        /** Only the first error counts: behind it nothing is taken. */
        void fail(int itsCode) {
            if (code == 0) {
                code = itsCode;
                position = at >= 0 && at < starts.length ? starts[at] : length;
            }
        }

        void takeKind(int kind) {
            if (kindNow() != kind) {
                fail(WRONG_TOKEN);
            }
            if (code == 0 && kindNow() != END) {
                at++;
            }
        }

        /** The number that stands here, which is not taken yet; the least one if it is wrong. */
        int lookNumber(int least, int most) {
            int number = kindNow() == NUMBER ? numbers[at] : least;
            if (kindNow() != NUMBER) {
                fail(WRONG_TOKEN);
            } else if (number < least || number > most) {
                fail(WRONG_RANGE);
            }
            return code == 0 ? number : least;
        }

        int takeNumber(int least, int most) {
            int number = lookNumber(least, most);
            takeKind(NUMBER);
            return number;
        }

        int takeSigned(int most) {
            boolean isNegative = kindNow() == MINUS;
            if (isNegative) {
                takeKind(MINUS);
            }
            int number = takeNumber(0, most);
            return isNegative ? -number : number;
        }
    }

    /** The commands of a script with the numbers behind them. */
    private static final class Script {
        int count = 0;
        private final int[] kinds = new int[MOST_COMMANDS];
        private final int[] starts = new int[MOST_COMMANDS + 1];
        private final int[] all = new int[MOST_TEXT];

        void clear() {
            count = 0;
            starts[0] = 0;
        }

        void begin(int kind) {
            if (count < MOST_COMMANDS) {
                kinds[count] = kind;
                starts[count + 1] = starts[count];
                count++;
            }
        }

        void add(int argument) {
            int end = starts[count];
            if (end < all.length) {
                all[end] = argument;
                starts[count] = end + 1;
            }
        }

        int kindOf(int command) {
            return command >= 0 && command < count ? kinds[command] : UNKNOWN;
        }

        int arguments(int command) {
            return command >= 0 && command < count ? starts[command + 1] - starts[command] : 0;
        }

        int argument(int command, int index) {
            return index >= 0 && index < arguments(command) ? all[starts[command] + index] : 0;
        }
    }
}
