/** States at their boundaries: "in the 150th step behind that in which it began", and around it. */
public final class WarningEdgeTest {
    private static final Check CHECK = new Check();

    public static void main(String[] args) {
        for (int side = 0; side < 2; side++) {
            hundredAndFiftiethStep(side);
            inOneCall(side);
            leavesWhileWarning(side);
            notTakenBack(side);
            closedForAStep(side);
            secondWarningAsLong(side);
            openForOneStepAlone(side);
        }
        everyReasonOfTheTrain();
        everyReasonOfThePlatform();
        trainNeedsThePlatformOpen();
        CHECK.end();
    }

    private static void dueState(String when, PlatformDoors doors, int side, int want) {
        CHECK.due("state of " + side + " " + when, doors.told(side, 1), want);
    }

    private static void hundredAndFiftiethStep(int side) {
        PlatformDoors doors = Scenes.warning(side);
        dueState("in the step in which WARNING began", doors, side, 2);
        doors.step(side, 1);
        dueState("in the 1st step behind that", doors, side, 2);
        doors.step(side, 148);
        dueState("in the 149th step behind that", doors, side, 2);
        doors.step(side, 1);
        dueState("in the 150th step behind that", doors, side, 0);
        doors.step(side, 1);
        dueState("in the 151st step behind that", doors, side, 0);
    }

    private static void inOneCall(int side) {
        PlatformDoors doors = Scenes.warning(side);
        doors.step(side, 149);
        dueState("behind 149 steps in one call", doors, side, 2);
        doors = Scenes.warning(side);
        doors.step(side, 150);
        dueState("behind 150 steps in one call", doors, side, 0);
        doors = Scenes.warning(side);
        doors.step(side, 500);
        dueState("behind 500 steps in one call", doors, side, 0);
        CHECK.due("openings", doors.told(side, 7), 1);
    }

    /** Wanted open in WARNING, and closing from the very step that is CLOSED. */
    private static void leavesWhileWarning(int side) {
        PlatformDoors doors = Scenes.warning(side);
        doors.step(side, 149);
        CHECK.due("wanted open in the 149th step", doors.leaf(side, 7, 1), 1);
        CHECK.due("position in the 149th step", doors.leaf(side, 7, 0), 100);
        doors.step(side, 1);
        CHECK.due("wanted open in the 150th step", doors.leaf(side, 7, 1), 0);
        CHECK.due("position in the 150th step", doors.leaf(side, 7, 0), 95);
    }

    /** All that opens holds again, but WARNING goes its 150 steps. */
    private static void notTakenBack(int side) {
        PlatformDoors doors = Scenes.warning(side);
        for (int i = 0; i < 29; i++) {
            hear(doors, side);
            doors.step(side, 5);
            dueState("that heard while warning", doors, side, 2);
        }
        hear(doors, side);
        doors.step(side, 4);
        dueState("in the 149th step, with all that opens", doors, side, 2);
        doors.step(side, 1);
        dueState("in the 150th step, with all that opens", doors, side, 0);
        doors.step(side, 1);
        dueState("in the 151st step, with all that opens", doors, side, 1);
    }

    /** The other side answers the side's newest frame; all that is on the way is taken or gone. */
    private static void hear(PlatformDoors doors, int side) {
        while (doors.told(1 - side, 4) > 0) {
            Scenes.deliverLast(doors, 1 - side);
        }
        doors.step(1 - side, 5);
        while (doors.told(side, 4) > 0) {
            Scenes.deliverLast(doors, side);
        }
    }

    /** In its 149th step behind that in which WARNING began, with all that opens. */
    private static PlatformDoors aboutToClose(int side) {
        PlatformDoors doors = Scenes.warning(side);
        doors.step(side, 144);
        while (doors.told(1 - side, 4) > 0) {
            doors.drop(1 - side, 0);
        }
        doors.step(side, 5);
        hear(doors, side);
        CHECK.due("age", doors.told(side, 2), 0);
        return doors;
    }

    /** One change of state a step: CLOSED in the 150th, OPEN again in the next. */
    private static void closedForAStep(int side) {
        PlatformDoors doors = aboutToClose(side);
        doors.step(side, 1);
        dueState("CLOSED before it is OPEN again", doors, side, 0);
        CHECK.due("openings", doors.told(side, 7), 1);
        doors.step(side, 1);
        dueState("OPEN again", doors, side, 1);
        CHECK.due("openings again", doors.told(side, 7), 2);
    }

    private static void secondWarningAsLong(int side) {
        PlatformDoors doors = aboutToClose(side);
        doors.step(side, 2);
        dueState("OPEN again", doors, side, 1);
        doors.step(side, 73);
        dueState("at age 75 again", doors, side, 1);
        doors.step(side, 1);
        dueState("at age 76 again", doors, side, 2);
        doors.step(side, 149);
        dueState("in the 149th step of the second WARNING", doors, side, 2);
        doors.step(side, 1);
        dueState("in the 150th step of the second WARNING", doors, side, 0);
    }

    /** From CLOSED by OPEN to WARNING in two steps, never in one. */
    private static void openForOneStepAlone(int side) {
        PlatformDoors doors = Scenes.open(side);
        dueState("in its first step", doors, side, 1);
        doors.command(false);
        if (side == 1) {
            doors.step(0, 5);
            Scenes.deliverLast(doors, 1);
        }
        doors.step(side, 1);
        dueState("in its second step", doors, side, 2);
        doors.step(side, 149);
        dueState("149 steps behind that", doors, side, 2);
        doors.step(side, 1);
        dueState("150 steps behind that", doors, side, 0);
    }

    private static void everyReasonOfTheTrain() {
        PlatformDoors doors = Scenes.trainOpen();
        doors.step(0, 1);
        dueState("without a reason", doors, 0, 1);
        doors = Scenes.trainOpen();
        doors.command(false);
        doors.step(0, 1);
        dueState("with the command to close", doors, 0, 2);
        doors = Scenes.trainOpen();
        doors.arrive(0, 1);
        doors.step(0, 1);
        dueState("with a speed", doors, 0, 2);
        doors = Scenes.trainOpen();
        doors.error(251);
        doors.step(0, 1);
        dueState("with a measure of 251", doors, 0, 2);
        doors = Scenes.trainOpen();
        warnPlatformAndTellIt(doors);
        dueState("though the platform is in WARNING", doors, 0, 1);
    }

    /** The platform's state is no reason for a train that is OPEN. */
    private static void warnPlatformAndTellIt(PlatformDoors doors) {
        doors.step(1, 75);
        dueState("stale", doors, 1, 2);
        while (doors.told(0, 4) > 0) {
            Scenes.deliverLast(doors, 0);
        }
        doors.step(1, 5);
        CHECK.due("the state told", doors.frame(0, 0, 2), 2);
        CHECK.due("taken", doors.deliver(0, 0), 1);
        doors.step(0, 1);
    }

    private static void everyReasonOfThePlatform() {
        for (int reason = 0; reason < 4; reason++) {
            PlatformDoors doors = Scenes.platformOpen();
            if (reason == 1) {
                doors.command(false);
            } else if (reason == 2) {
                doors.arrive(0, 1);
            } else if (reason == 3) {
                doors.arrive(-251, 0);
            }
            doors.step(0, 5);
            doors.step(1, 1);
            dueState("before it is told", doors, 1, 1);
            CHECK.due("taken", Scenes.deliverLast(doors, 1), 1);
            doors.step(1, 1);
            dueState("told of reason " + reason, doors, 1, reason == 0 ? 1 : 2);
        }
    }

    /** "and the state in that is OPEN": neither CLOSED nor WARNING will do. */
    private static void trainNeedsThePlatformOpen() {
        PlatformDoors doors = new PlatformDoors();
        doors.arrive(0, 0);
        doors.command(true);
        doors.step(0, 20);
        Scenes.deliverLast(doors, 1);
        doors.step(1, 5);
        CHECK.due("CLOSED is told", doors.frame(0, 0, 2), 0);
        doors.deliver(0, 0);
        doors.step(0, 1);
        dueState("by a platform that is CLOSED", doors, 0, 0);
        doors = Scenes.trainMayOpen();
        doors.step(1, 71);
        dueState("stale", doors, 1, 2);
        while (doors.told(0, 4) > 0) {
            doors.drop(0, 0);
        }
        doors.step(1, 4);
        CHECK.due("WARNING is told", doors.frame(0, 0, 2), 2);
        CHECK.due("taken", doors.deliver(0, 0), 1);
        doors.step(0, 1);
        CHECK.due("fresh", doors.told(0, 2), 1);
        dueState("by a platform in WARNING", doors, 0, 0);
    }
}
