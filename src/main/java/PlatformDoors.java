/**
 * Doors of a train and doors of a platform that open and close as pairs, though each side knows of
 * the other by messages alone. An object serves at most 512 calls.
 */
public final class PlatformDoors {
    public static final int BAD = -1, NONE = -2;

    private static final int TRAIN = 0, PLATFORM = 1;
    private static final int LEAVES = 8, LINE_ROOM = 12;
    private static final int CLOSED = 0, OPEN = 1, WARNING = 2;
    private static final int STEPS_A_FRAME = 5, STEPS_OF_WARNING = 150, STEPS_TO_BE_READY = 20;
    private static final int FRESH_AGE = 25, STALE_AGE = 75;
    private static final int POSITION_MOST = 100, PACE = 5, PACE_BY_HAND = 10;
    private static final int FEELING_POSITION = 40, RETRIES_MOST = 3, STEPS_OF_REOPENING = 40;
    private static final int CONTACT_SAYS_LOCKED = 1, CONTACT_SAYS_NOT = 2;
    private static final int MEASURE_MOST = 250, STAND_MOST = 350;
    private static final int STEPS_MOST = 500, OBSTRUCTION_MOST = 1000;
    private static final int PLACE_MOST = 2000000, SPEED_MOST = 30000;
    private static final int ERROR_MOST = 1000, BAD_ERROR = -2000;
    // Far below every step count, so that a train that never stood at the mark is never in time.
    private static final int NEVER = -1000000;

    private final Train train;
    private final Platform platform;
    // The platform's steps when the train last did a step standing at the mark: the theorem needs
    // no more of the train's history than this.
    private int stoodAt;
    private int breachCount;

    public PlatformDoors() {
        Line toTrain = new Line();
        Line toPlatform = new Line();
        train = new Train(toTrain, toPlatform);
        platform = new Platform(toPlatform, toTrain);
        restart();
    }

    public void begin() {
        restart();
    }

    public int step(int side, int many) {
        if (!isSide(side) || !isWithin(many, 1, STEPS_MOST)) {
            return BAD;
        }
        Side chosen = sideOf(side);
        for (int i = 0; i < many; i++) {
            chosen.advance();
            if (side == TRAIN) {
                watchTrain();
            } else {
                watchPlatform();
            }
        }
        return chosen.steps;
    }

    public int arrive(int place, int speed) {
        if (!isWithin(place, -PLACE_MOST, PLACE_MOST) || !isWithin(speed, 0, SPEED_MOST)) {
            return BAD;
        }
        train.place = place;
        train.speed = speed;
        return 0;
    }

    public int error(int e) {
        if (!isWithin(e, -ERROR_MOST, ERROR_MOST)) {
            return BAD_ERROR;
        }
        int before = train.measuringError;
        train.measuringError = e;
        return before;
    }

    public boolean command(boolean open) {
        boolean before = train.commandIsOpen;
        train.commandIsOpen = open;
        return before;
    }

    public int isolate(int side, int leaf, boolean is) {
        if (!isSide(side) || !isLeaf(leaf)) {
            return BAD;
        }
        Leaf chosen = sideOf(side).leaves[leaf];
        int before = asNumber(chosen.isolated);
        chosen.isolated = is;
        return before;
    }

    public int release(int side, int leaf, boolean is) {
        if (!isSide(side) || !isLeaf(leaf)) {
            return BAD;
        }
        Leaf chosen = sideOf(side).leaves[leaf];
        int before = asNumber(chosen.released);
        chosen.released = is;
        return before;
    }

    public int obstruct(int side, int leaf, int steps) {
        if (!isSide(side) || !isLeaf(leaf) || !isWithin(steps, 0, OBSTRUCTION_MOST)) {
            return BAD;
        }
        Leaf chosen = sideOf(side).leaves[leaf];
        int before = chosen.obstructed;
        chosen.obstructed = steps;
        return before;
    }

    public int contact(int side, int leaf, int which, int how) {
        if (!isSide(side) || !isLeaf(leaf)
                || !isWithin(which, 0, 1) || !isWithin(how, 0, CONTACT_SAYS_NOT)) {
            return BAD;
        }
        Leaf chosen = sideOf(side).leaves[leaf];
        int before = chosen.contacts[which];
        chosen.contacts[which] = how;
        return before;
    }

    public int deliver(int side, int k) {
        if (!isUnderWay(side, k)) {
            return BAD;
        }
        Side receiver = sideOf(side);
        boolean taken = receiver.takes(receiver.incoming.frames[k]);
        receiver.incoming.removeAt(k);
        return asNumber(taken);
    }

    public int drop(int side, int k) {
        if (!isUnderWay(side, k)) {
            return BAD;
        }
        Line line = sideOf(side).incoming;
        line.removeAt(k);
        return line.count;
    }

    public int twin(int side, int k) {
        if (!isUnderWay(side, k)) {
            return BAD;
        }
        Line line = sideOf(side).incoming;
        if (line.isFull()) {
            return BAD;
        }
        line.doubleAt(k);
        return line.count;
    }

    public int frame(int side, int k, int which) {
        return isUnderWay(side, k) ? sideOf(side).incoming.frames[k].part(which) : BAD;
    }

    public int leaf(int side, int leaf, int which) {
        return isSide(side) && isLeaf(leaf) ? sideOf(side).leaves[leaf].part(which) : BAD;
    }

    public int told(int side, int which) {
        return isSide(side) ? sideOf(side).part(which) : BAD;
    }

    public boolean mayGo() {
        return train.isFresh() && train.newest.assured
                && train.state == CLOSED && train.countToldLocked() == LEAVES;
    }

    public int breaches() {
        return breachCount;
    }

    private void restart() {
        train.restartTrain();
        platform.restartSide();
        stoodAt = NEVER;
        breachCount = 0;
    }

    private void watchTrain() {
        if (train.standsAtMark()) {
            stoodAt = platform.steps;
        }
    }

    private void watchPlatform() {
        if (platform.openedAt == platform.steps && stoodAt < platform.steps - FRESH_AGE) {
            breachCount++;
        }
    }

    private Side sideOf(int side) {
        return side == TRAIN ? train : platform;
    }

    private boolean isUnderWay(int side, int k) {
        return isSide(side) && isWithin(k, 0, sideOf(side).incoming.count - 1);
    }

    private static boolean isSide(int side) {
        return isWithin(side, TRAIN, PLATFORM);
    }

    private static boolean isLeaf(int leaf) {
        return isWithin(leaf, 0, LEAVES - 1);
    }

    private static boolean isWithin(int value, int least, int most) {
        return value >= least && value <= most;
    }

    private static int asNumber(boolean is) {
        return is ? 1 : 0;
    }

    /** What one side says to the other; number 0 is that of no frame at all. */
    private static final class Frame {
        int number;
        int echo;
        int state;
        int isolatedBits;
        // READY of the train, PROOF of the platform.
        boolean assured;
        boolean commandIsOpen;

        void clear() {
            number = 0;
            echo = 0;
            state = CLOSED;
            isolatedBits = 0;
            assured = false;
            commandIsOpen = false;
        }

        void copyFrom(Frame other) {
            number = other.number;
            echo = other.echo;
            state = other.state;
            isolatedBits = other.isolatedBits;
            assured = other.assured;
            commandIsOpen = other.commandIsOpen;
        }

        boolean tellsIsolated(int leaf) {
            return (isolatedBits >> leaf & 1) == 1;
        }

        int part(int which) {
            switch (which) {
                case 0: return number;
                case 1: return echo;
                case 2: return state;
                case 3: return isolatedBits;
                case 4: return asNumber(assured);
                case 5: return asNumber(commandIsOpen);
                default: return BAD;
            }
        }
    }

    /** The frames under way to one side; the frames behind the count are spare, to be used again. */
    private static final class Line {
        final Frame[] frames = new Frame[LINE_ROOM];
        int count;

        Line() {
            for (int i = 0; i < LINE_ROOM; i++) {
                frames[i] = new Frame();
            }
        }

        boolean isFull() {
            return count >= LINE_ROOM;
        }

        /** The next spare frame joins the line; only for a line that is not full. */
        Frame lengthen() {
            count++;
            return frames[count - 1];
        }

        void removeAt(int k) {
            Frame gone = frames[k];
            for (int i = k; i < count - 1; i++) {
                frames[i] = frames[i + 1];
            }
            count--;
            frames[count] = gone;
        }

        /** Only for a line that is not full; the twin was sent when its frame was, so it is next. */
        void doubleAt(int k) {
            Frame copy = lengthen();
            copy.copyFrom(frames[k]);
            for (int i = count - 1; i > k + 1; i--) {
                frames[i] = frames[i - 1];
            }
            frames[k + 1] = copy;
        }
    }

    private static final class Leaf {
        final int[] contacts = new int[2];
        int position;
        int retries;
        int reopening;
        int obstructed;
        boolean wantedOpen;
        boolean isolated;
        boolean released;
        boolean callsStaff;

        void clear() {
            contacts[0] = 0;
            contacts[1] = 0;
            position = 0;
            retries = 0;
            reopening = 0;
            obstructed = 0;
            wantedOpen = false;
            isolated = false;
            released = false;
            callsStaff = false;
        }

        /** A step, with what the side's state and the other side's isolation leave to this leaf. */
        void advance(boolean sideLetsOpen) {
            wantedOpen = sideLetsOpen && !isolated || reopening > 0;
            move();
            if (isLocked()) {
                retries = 0;
                callsStaff = false;
            }
            obstructed = Math.max(0, obstructed - 1);
            reopening = Math.max(0, reopening - 1);
        }

        private void move() {
            if (released) {
                position = Math.min(POSITION_MOST, position + PACE_BY_HAND);
            } else if (wantedOpen) {
                position = Math.min(POSITION_MOST, position + PACE);
            } else if (position > 0 && position <= FEELING_POSITION && obstructed > 0) {
                feel();
            } else {
                position = Math.max(0, position - PACE);
            }
        }

        private void feel() {
            if (retries < RETRIES_MOST) {
                retries++;
                // This step's own countdown is still to come, and the steps behind it are meant.
                reopening = STEPS_OF_REOPENING + 1;
            } else {
                callsStaff = true;
            }
        }

        boolean isLocked() {
            return position == 0 && !wantedOpen && !released;
        }

        boolean isToldLocked() {
            boolean locked = isLocked();
            return saysLocked(contacts[0], locked) && saysLocked(contacts[1], locked);
        }

        private static boolean saysLocked(int how, boolean locked) {
            return how == CONTACT_SAYS_LOCKED || how != CONTACT_SAYS_NOT && locked;
        }

        int part(int which) {
            switch (which) {
                case 0: return position;
                case 1: return asNumber(wantedOpen);
                case 2: return asNumber(isLocked());
                case 3: return asNumber(isToldLocked());
                case 4: return retries;
                case 5: return asNumber(callsStaff);
                case 6: return reopening;
                case 7: return obstructed;
                default: return BAD;
            }
        }
    }

    /** What train and platform have in common. */
    private abstract static class Side {
        final Leaf[] leaves = new Leaf[LEAVES];
        final Frame newest = new Frame();
        final Line incoming;
        final Line outgoing;
        int steps;
        int state;
        int warningBegan;
        int openedAt;
        int openings;

        Side(Line incoming, Line outgoing) {
            this.incoming = incoming;
            this.outgoing = outgoing;
            for (int i = 0; i < LEAVES; i++) {
                leaves[i] = new Leaf();
            }
        }

        abstract void look();

        abstract boolean mayOpen();

        abstract boolean mustWarn();

        /** READY of the train, PROOF of the platform. */
        abstract boolean isAssured();

        abstract boolean commandsToOpen();

        final void restartSide() {
            for (int i = 0; i < LEAVES; i++) {
                leaves[i].clear();
            }
            newest.clear();
            incoming.count = 0;
            steps = 0;
            state = CLOSED;
            warningBegan = 0;
            openedAt = 0;
            openings = 0;
        }

        final void advance() {
            steps++;
            look();
            changeState();
            for (int i = 0; i < LEAVES; i++) {
                leaves[i].advance(state != CLOSED && !newest.tellsIsolated(i));
            }
            if (steps % STEPS_A_FRAME == 0) {
                send();
            }
        }

        private void changeState() {
            if (state == CLOSED) {
                if (mayOpen()) {
                    state = OPEN;
                    openedAt = steps;
                    openings++;
                }
            } else if (state == OPEN) {
                if (mustWarn()) {
                    state = WARNING;
                    warningBegan = steps;
                }
            } else if (steps - warningBegan >= STEPS_OF_WARNING) {
                state = CLOSED;
            }
        }

        private void send() {
            if (outgoing.isFull()) {
                return;
            }
            Frame sent = outgoing.lengthen();
            sent.number = steps / STEPS_A_FRAME;
            sent.echo = newest.number;
            sent.state = state;
            sent.isolatedBits = isolatedBits();
            sent.assured = isAssured();
            sent.commandIsOpen = commandsToOpen();
        }

        final boolean takes(Frame delivered) {
            if (delivered.number <= newest.number) {
                return false;
            }
            newest.copyFrom(delivered);
            return true;
        }

        /** An echo of 0 stands both for no frame taken and for one that echoes none. */
        final int age() {
            return newest.echo == 0 ? NONE : steps - newest.echo * STEPS_A_FRAME;
        }

        final boolean isFresh() {
            int age = age();
            return age != NONE && age <= FRESH_AGE;
        }

        final boolean isStale() {
            int age = age();
            return age == NONE || age > STALE_AGE;
        }

        final int countToldLocked() {
            int told = 0;
            for (int i = 0; i < LEAVES; i++) {
                told += asNumber(leaves[i].isToldLocked());
            }
            return told;
        }

        private int isolatedBits() {
            int bits = 0;
            for (int i = 0; i < LEAVES; i++) {
                bits |= asNumber(leaves[i].isolated) << i;
            }
            return bits;
        }

        final int part(int which) {
            switch (which) {
                case 0: return steps;
                case 1: return state;
                case 2: return age();
                case 3: return newest.number;
                case 4: return incoming.count;
                case 5: return countToldLocked();
                case 6: return asNumber(isAssured());
                case 7: return openings;
                default: return BAD;
            }
        }
    }

    private static final class Train extends Side {
        int place;
        int speed;
        int measuringError;
        int stepsAtRest;
        boolean commandIsOpen;

        Train(Line incoming, Line outgoing) {
            super(incoming, outgoing);
        }

        void restartTrain() {
            restartSide();
            place = 0;
            speed = 1;
            measuringError = 0;
            stepsAtRest = 0;
            commandIsOpen = false;
        }

        @Override
        void look() {
            stepsAtRest = speed == 0 ? stepsAtRest + 1 : 0;
        }

        @Override
        boolean mayOpen() {
            return commandIsOpen && isReady() && isFresh() && newest.state == OPEN;
        }

        @Override
        boolean mustWarn() {
            return !commandIsOpen || !isReady() || isStale();
        }

        @Override
        boolean isAssured() {
            return isReady();
        }

        @Override
        boolean commandsToOpen() {
            return commandIsOpen;
        }

        private boolean isReady() {
            return stepsAtRest >= STEPS_TO_BE_READY
                    && isWithin(place + measuringError, -MEASURE_MOST, MEASURE_MOST);
        }

        /** Where it truly is, whatever it measures. */
        boolean standsAtMark() {
            return speed == 0 && isWithin(place, -STAND_MOST, STAND_MOST);
        }
    }

    private static final class Platform extends Side {
        Platform(Line incoming, Line outgoing) {
            super(incoming, outgoing);
        }

        @Override
        void look() {
            // A platform has no speed to see.
        }

        @Override
        boolean mayOpen() {
            return isFresh() && newest.assured && newest.commandIsOpen;
        }

        @Override
        boolean mustWarn() {
            return isStale() || !newest.assured || !newest.commandIsOpen;
        }

        @Override
        boolean isAssured() {
            return countToldLocked() == LEAVES;
        }

        @Override
        boolean commandsToOpen() {
            return false;
        }
    }
}
