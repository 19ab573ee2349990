/** The AGE, FRESH "at most 25", and STALE "if there is none or it is above 75". */
public final class AgeEdgeTest {
    private static final Check CHECK = new Check();
    private static final int NONE = PlatformDoors.NONE;

    public static void main(String[] args) {
        for (int side = 0; side < 2; side++) {
            noneIfNoneWasTaken(side);
            noneIfTheEchoIsZero(side);
            zeroAndOne(side);
            byTheNewestAlone(side);
            freshAtMostTwentyFive(side);
            staleAboveSeventyFive(side);
            freshAgainInTime(side);
            neitherFreshNorStale(side);
        }
        openWithoutAnAge();
        mayGoAtMostTwentyFive();
        mayGoWithoutAnAge();
        CHECK.end();
    }

    private static void dueAge(String when, PlatformDoors doors, int side, int want) {
        CHECK.due("age of " + side + " " + when, doors.told(side, 2), want);
    }

    private static void dueState(String when, PlatformDoors doors, int side, int want) {
        CHECK.due("state of " + side + " " + when, doors.told(side, 1), want);
    }

    private static void noneIfNoneWasTaken(int side) {
        PlatformDoors doors = new PlatformDoors();
        dueAge("at first", doors, side, NONE);
        doors.step(side, 100);
        dueAge("behind 100 steps", doors, side, NONE);
        doors.step(1 - side, 5);
        dueAge("with a frame under way", doors, side, NONE);
        doors.drop(side, 0);
        dueAge("with a frame lost", doors, side, NONE);
    }

    private static void noneIfTheEchoIsZero(int side) {
        PlatformDoors doors = new PlatformDoors();
        doors.step(side, 5);
        doors.step(1 - side, 5);
        CHECK.due("a frame without an echo", doors.deliver(side, 0), 1);
        dueAge("with the echo 0", doors, side, NONE);
        doors.deliver(1 - side, 0);
        doors.step(1 - side, 5);
        CHECK.due("a frame with the echo 1", doors.deliver(side, 0), 1);
        dueAge("with the echo 1", doors, side, 0);
    }

    private static void zeroAndOne(int side) {
        PlatformDoors doors = new PlatformDoors();
        doors.step(side, 5);
        doors.deliver(1 - side, 0);
        doors.step(1 - side, 50);
        Scenes.deliverLast(doors, side);
        dueAge("without a step since the frame of the echo", doors, side, 0);
        doors.step(1 - side, 50);
        dueAge("by the other side's steps", doors, side, 0);
        doors.step(side, 1);
        dueAge("behind a step", doors, side, 1);
        doors.step(side, 500);
        dueAge("behind 501 steps", doors, side, 501);
    }

    /** The age is that of the echo in the newest frame, even if the same echo came before. */
    private static void byTheNewestAlone(int side) {
        PlatformDoors doors = new PlatformDoors();
        doors.step(side, 5);
        doors.deliver(1 - side, 0);
        doors.step(1 - side, 10);
        doors.deliver(side, 0);
        doors.step(side, 7);
        CHECK.due("a newer frame with the same echo", doors.deliver(side, 0), 1);
        dueAge("of the same echo", doors, side, 7);
        doors.deliver(1 - side, 0);
        doors.step(1 - side, 5);
        CHECK.due("a newer frame with a newer echo", doors.deliver(side, 0), 1);
        dueAge("of the newer echo", doors, side, 2);
    }

    /** A side that may open in the step in which the age becomes so. */
    private static PlatformDoors stepAtAge(int side, int age) {
        PlatformDoors doors = side == 0 ? Scenes.trainMayOpen() : Scenes.platformMayOpen();
        int frame = Scenes.last(doors, side);
        if (age > 1) {
            doors.step(side, age - 1);
        }
        doors.deliver(side, frame);
        dueState("before that step", doors, side, 0);
        doors.step(side, 1);
        dueAge("in that step", doors, side, age);
        return doors;
    }

    private static void freshAtMostTwentyFive(int side) {
        for (int age : new int[] {1, 24, 25, 26, 27, 75, 76}) {
            PlatformDoors doors = stepAtAge(side, age);
            dueState("at age " + age, doors, side, age <= 25 ? 1 : 0);
            CHECK.due("openings at age " + age, doors.told(side, 7), age <= 25 ? 1 : 0);
            CHECK.due("leaf 0 at age " + age, doors.leaf(side, 0, 0), age <= 25 ? 5 : 0);
        }
    }

    /**
     * What was taken has READY and the command to open, but no echo. Of a train there is no such run:
     * a platform that is OPEN has taken a frame and echoes it; and no side that is OPEN ever comes to
     * be without an age, as later frames never echo less.
     */
    private static void openWithoutAnAge() {
        PlatformDoors doors = new PlatformDoors();
        doors.arrive(0, 0);
        doors.command(true);
        doors.step(0, 20);
        CHECK.due("taken", Scenes.deliverLast(doors, 1), 1);
        dueAge("without an echo", doors, 1, NONE);
        doors.step(1, 30);
        dueState("without an age", doors, 1, 0);
    }

    private static void staleAboveSeventyFive(int side) {
        PlatformDoors doors = Scenes.open(side);
        doors.step(side, 74);
        dueAge("before it is stale", doors, side, 75);
        dueState("at age 75", doors, side, 1);
        doors.step(side, 1);
        dueAge("when it is stale", doors, side, 76);
        dueState("at age 76", doors, side, 2);
    }

    /** A frame that comes between age 75 and the next step keeps it OPEN. */
    private static void freshAgainInTime(int side) {
        PlatformDoors doors = Scenes.open(side);
        doors.step(side, 74);
        while (doors.told(1 - side, 4) > 0) {
            Scenes.deliverLast(doors, 1 - side);
        }
        doors.step(1 - side, 5);
        CHECK.due("a newer frame", Scenes.deliverLast(doors, side), 1);
        CHECK.due("a newer age", doors.told(side, 2) < 75, true);
        doors.step(side, 1);
        dueState("that heard in time", doors, side, 1);
    }

    /** From 26 to 75 an OPEN side stays OPEN, and a CLOSED one CLOSED. */
    private static void neitherFreshNorStale(int side) {
        PlatformDoors doors = Scenes.open(side);
        doors.step(side, 24);
        dueState("at age 25", doors, side, 1);
        doors.step(side, 1);
        dueState("OPEN at age 26", doors, side, 1);
        doors = stepAtAge(side, 26);
        doors.step(side, 49);
        dueAge("at last", doors, side, 75);
        dueState("CLOSED at age 75", doors, side, 0);
    }

    private static void mayGoAtMostTwentyFive() {
        PlatformDoors doors = new PlatformDoors();
        Check.exchange(doors, 2);
        dueAge("of a train that may go", doors, 0, 5);
        CHECK.due("may go", doors.mayGo(), true);
        doors.step(0, 20);
        dueAge("at the edge", doors, 0, 25);
        CHECK.due("may go at age 25", doors.mayGo(), true);
        doors.step(0, 1);
        CHECK.due("may go at age 26", doors.mayGo(), false);
        doors.step(1, 5);
        doors.deliver(1, Scenes.last(doors, 1));
        doors.step(1, 5);
        Scenes.deliverLast(doors, 0);
        dueAge("of a newer echo", doors, 0, 1);
        CHECK.due("may go again", doors.mayGo(), true);
    }

    private static void mayGoWithoutAnAge() {
        PlatformDoors doors = new PlatformDoors();
        CHECK.due("may go at first", doors.mayGo(), false);
        doors.step(1, 5);
        doors.deliver(0, 0);
        dueAge("with the PROOF, but without an echo", doors, 0, NONE);
        CHECK.due("may go without an age", doors.mayGo(), false);
    }
}
