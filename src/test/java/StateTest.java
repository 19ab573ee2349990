/** Promises 3 and 16: the age, and when each side opens, warns and closes. */
public final class StateTest {
    private static final Check CHECK = new Check();

    public static void main(String[] args) {
        stepsOfEachSide();
        ages();
        platformOpensIfFresh();
        platformNeedsReadyAndCommand();
        trainOpensBehindThePlatform();
        trainNeedsFreshness();
        trainWarns();
        trainWarnsIfStale();
        platformWarns();
        platformWarnsIfStale();
        warningEnds();
        opensAgain();
        CHECK.end();
    }

    private static void stepsOfEachSide() {
        PlatformDoors doors = new PlatformDoors();
        CHECK.due("step(0, 7)", doors.step(0, 7), 7);
        CHECK.due("step(1, 3)", doors.step(1, 3), 3);
        CHECK.due("step(0, 1)", doors.step(0, 1), 8);
        CHECK.due("told(0, 0)", doors.told(0, 0), 8);
        CHECK.due("told(1, 0)", doors.told(1, 0), 3);
    }

    private static void ages() {
        PlatformDoors doors = new PlatformDoors();
        doors.step(0, 5);
        CHECK.due("none taken", doors.told(1, 2), PlatformDoors.NONE);
        doors.deliver(1, 0);
        CHECK.due("taken, with echo 0", doors.told(1, 2), PlatformDoors.NONE);
        doors.step(1, 7);
        CHECK.due("taken, with echo 0", doors.told(1, 2), PlatformDoors.NONE);
        doors.deliver(0, 0);
        CHECK.due("echo 1 of the train's", doors.told(0, 2), 0);
        doors.step(0, 3);
        CHECK.due("3 steps later", doors.told(0, 2), 3);
        doors.step(0, 2);
        doors.deliver(1, 0);
        CHECK.due("echo 1 of the platform's", doors.told(1, 2), 2);
        CHECK.due("newest of the platform's", doors.told(1, 3), 2);
        doors.step(1, 100);
        CHECK.due("100 steps later", doors.told(1, 2), 102);
        CHECK.due("the train's own", doors.told(0, 2), 5);
    }

    /** The platform has taken READY and the command to open, with an echo of its step 25. */
    private static PlatformDoors platformBeforeOpening(int stepsBehindEcho) {
        PlatformDoors doors = new PlatformDoors();
        doors.arrive(0, 0);
        doors.command(true);
        doors.step(1, 25);
        doors.deliver(0, 4);
        doors.step(0, 20);
        if (stepsBehindEcho > 0) {
            doors.step(1, stepsBehindEcho);
        }
        CHECK.due("CLOSED before that", doors.told(1, 1), 0);
        doors.deliver(1, 3);
        CHECK.due("CLOSED before its step", doors.told(1, 1), 0);
        CHECK.due("age", doors.told(1, 2), stepsBehindEcho);
        doors.step(1, 1);
        return doors;
    }

    private static void platformOpensIfFresh() {
        CHECK.due("age 1", platformBeforeOpening(0).told(1, 1), 1);
        CHECK.due("age 25", platformBeforeOpening(24).told(1, 1), 1);
        CHECK.due("age 26", platformBeforeOpening(25).told(1, 1), 0);
        CHECK.due("openings at age 25", platformBeforeOpening(24).told(1, 7), 1);
        CHECK.due("openings at age 26", platformBeforeOpening(25).told(1, 7), 0);
    }

    private static void platformNeedsReadyAndCommand() {
        PlatformDoors doors = new PlatformDoors();
        doors.command(true);
        Check.exchange(doors, 10);
        CHECK.due("without READY", doors.told(1, 1), 0);
        doors.begin();
        doors.arrive(0, 0);
        Check.exchange(doors, 10);
        CHECK.due("without the command", doors.told(1, 1), 0);
        doors.command(true);
        doors.step(1, 2);
        CHECK.due("without a frame of that", doors.told(1, 1), 0);
        doors.step(0, 5);
        doors.deliver(1, 0);
        doors.step(1, 1);
        CHECK.due("with one", doors.told(1, 1), 1);
    }

    private static void trainOpensBehindThePlatform() {
        PlatformDoors doors = platformBeforeOpening(4);
        CHECK.due("the platform is OPEN", doors.told(1, 1), 1);
        doors.step(0, 5);
        CHECK.due("the train knows not", doors.told(0, 1), 0);
        doors.deliver(0, 4);
        CHECK.due("CLOSED until its step", doors.told(0, 1), 0);
        CHECK.due("the age by echo 4", doors.told(0, 2), 5);
        doors.step(0, 1);
        CHECK.due("OPEN", doors.told(0, 1), 1);
        CHECK.due("openings", doors.told(0, 7), 1);
        CHECK.due("its leaves", doors.leaf(0, 0, 0), 5);
    }

    /** The train, CLOSED, takes that the platform is OPEN, so many steps behind its own echo. */
    private static PlatformDoors trainBeforeOpening(int stepsBehindEcho) {
        PlatformDoors doors = platformBeforeOpening(0);
        doors.step(1, 4);
        CHECK.due("the echo", doors.frame(0, doors.told(0, 4) - 1, 1), 4);
        doors.step(0, stepsBehindEcho);
        doors.deliver(0, doors.told(0, 4) - 1);
        CHECK.due("the train's age", doors.told(0, 2), stepsBehindEcho);
        return doors;
    }

    private static void trainNeedsFreshness() {
        PlatformDoors doors = trainBeforeOpening(24);
        doors.step(0, 1);
        CHECK.due("train at age 25", doors.told(0, 1), 1);
        doors = trainBeforeOpening(25);
        doors.step(0, 1);
        CHECK.due("train at age 26", doors.told(0, 1), 0);
        doors = trainBeforeOpening(3);
        doors.command(false);
        doors.step(0, 1);
        CHECK.due("train with the command to close", doors.told(0, 1), 0);
        doors = trainBeforeOpening(3);
        doors.arrive(251, 0);
        doors.step(0, 1);
        CHECK.due("train at 251", doors.told(0, 1), 0);
        doors = trainBeforeOpening(3);
        doors.arrive(0, 1);
        doors.step(0, 1);
        CHECK.due("train at speed 1", doors.told(0, 1), 0);
    }

    private static void trainWarns() {
        PlatformDoors doors = Check.opened();
        doors.step(0, 1);
        CHECK.due("OPEN", doors.told(0, 1), 1);
        doors.command(false);
        CHECK.due("OPEN until its step", doors.told(0, 1), 1);
        doors.step(0, 1);
        CHECK.due("the command to close", doors.told(0, 1), 2);
        doors.command(true);
        doors.step(0, 1);
        CHECK.due("WARNING is not taken back", doors.told(0, 1), 2);
        doors = Check.opened();
        doors.arrive(0, 1);
        doors.step(0, 1);
        CHECK.due("not READY by speed", doors.told(0, 1), 2);
        doors = Check.opened();
        doors.error(-251);
        doors.step(0, 1);
        CHECK.due("not READY by measure", doors.told(0, 1), 2);
        CHECK.due("its leaves stay open", doors.leaf(0, 0, 0), 100);
        CHECK.due("wanted open in WARNING", doors.leaf(0, 0, 1), 1);
    }

    private static void trainWarnsIfStale() {
        PlatformDoors doors = Check.opened();
        int age = doors.told(0, 2);
        doors.step(0, 75 - age);
        CHECK.due("age 75", doors.told(0, 2), 75);
        CHECK.due("OPEN at age 75", doors.told(0, 1), 1);
        doors.step(0, 1);
        CHECK.due("WARNING at age 76", doors.told(0, 1), 2);
    }

    private static void platformWarns() {
        PlatformDoors doors = Check.opened();
        doors.command(false);
        doors.step(1, 1);
        CHECK.due("not told yet", doors.told(1, 1), 1);
        doors.step(0, 5);
        doors.deliver(1, 0);
        doors.step(1, 1);
        CHECK.due("told to close", doors.told(1, 1), 2);
        doors = Check.opened();
        doors.arrive(300, 0);
        doors.step(0, 5);
        doors.deliver(1, 0);
        doors.step(1, 1);
        CHECK.due("told that it is not READY", doors.told(1, 1), 2);
        doors = Check.opened();
        doors.contact(1, 0, 0, 2);
        doors.step(0, 5);
        doors.deliver(1, 0);
        doors.step(1, 1);
        CHECK.due("no cause to warn", doors.told(1, 1), 1);
    }

    private static void platformWarnsIfStale() {
        PlatformDoors doors = Check.opened();
        int age = doors.told(1, 2);
        doors.step(1, 75 - age);
        CHECK.due("age 75", doors.told(1, 2), 75);
        CHECK.due("OPEN at age 75", doors.told(1, 1), 1);
        doors.step(1, 1);
        CHECK.due("WARNING at age 76", doors.told(1, 1), 2);
    }

    private static void warningEnds() {
        for (int side = 0; side < 2; side++) {
            PlatformDoors doors = Check.opened();
            doors.command(false);
            doors.step(0, 5);
            doors.deliver(1, 0);
            doors.step(1, 5);
            CHECK.due("WARNING for 4 steps", doors.told(side, 1), 2);
            doors.step(side, 145);
            CHECK.due("WARNING for 149 steps", doors.told(side, 1), 2);
            CHECK.due("leaf", doors.leaf(side, 0, 0), 100);
            doors.step(side, 1);
            CHECK.due("CLOSED in the 150th", doors.told(side, 1), 0);
            CHECK.due("leaf", doors.leaf(side, 0, 0), 95);
        }
    }

    private static void opensAgain() {
        PlatformDoors doors = Check.opened();
        doors.command(false);
        Check.exchange(doors, 1);
        doors.command(true);
        Check.exchange(doors, 29);
        CHECK.due("the train still in WARNING", doors.told(0, 1), 2);
        Check.exchange(doors, 1);
        CHECK.due("the train is CLOSED or OPEN", doors.told(0, 1) != 2, true);
        Check.exchange(doors, 4);
        for (int side = 0; side < 2; side++) {
            CHECK.due("OPEN again", doors.told(side, 1), 1);
            CHECK.due("openings", doors.told(side, 7), 2);
        }
    }
}
