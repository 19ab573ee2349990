/** Promise 17, and the PROOF: what must hold before the train may go. */
public final class MayGoTest {
    private static final Check CHECK = new Check();

    public static void main(String[] args) {
        freshProofIsNeeded();
        ownLeavesAreNeeded();
        platformLeavesAreNeeded();
        ownStateIsNeeded();
        wholeStop();
        CHECK.end();
    }

    private static PlatformDoors closedAndTold() {
        PlatformDoors doors = new PlatformDoors();
        Check.exchange(doors, 1);
        doors.step(1, 5);
        doors.deliver(0, 0);
        return doors;
    }

    private static void freshProofIsNeeded() {
        PlatformDoors doors = new PlatformDoors();
        CHECK.due("nothing taken", doors.mayGo(), false);
        doors.step(1, 5);
        doors.deliver(0, 0);
        CHECK.due("PROOF without an age", doors.mayGo(), false);
        doors = closedAndTold();
        CHECK.due("age", doors.told(0, 2), 0);
        CHECK.due("fresh PROOF", doors.mayGo(), true);
        doors.step(0, 25);
        CHECK.due("at age 25", doors.mayGo(), true);
        doors.step(0, 1);
        CHECK.due("at age 26", doors.mayGo(), false);
    }

    private static void ownLeavesAreNeeded() {
        PlatformDoors doors = closedAndTold();
        doors.contact(0, 7, 1, 2);
        CHECK.due("a contact that says not", doors.mayGo(), false);
        CHECK.due("told as locked", doors.told(0, 5), 7);
        doors.contact(0, 7, 1, 1);
        CHECK.due("that says locked", doors.mayGo(), true);
        doors.release(0, 0, true);
        CHECK.due("released", doors.mayGo(), false);
        doors.contact(0, 0, 0, 1);
        CHECK.due("released, one contact says locked", doors.mayGo(), false);
        doors.contact(0, 0, 1, 1);
        CHECK.due("released, both say locked", doors.mayGo(), true);
        doors.isolate(0, 3, true);
        CHECK.due("an isolated leaf", doors.mayGo(), true);
        doors.arrive(0, 30000);
        doors.command(true);
        CHECK.due("whatever its speed and command", doors.mayGo(), true);
    }

    private static void platformLeavesAreNeeded() {
        PlatformDoors doors = closedAndTold();
        doors.release(1, 6, true);
        CHECK.due("PROOF now", doors.told(1, 6), 0);
        CHECK.due("told as locked", doors.told(1, 5), 7);
        CHECK.due("the train is not told yet", doors.mayGo(), true);
        doors.step(1, 5);
        doors.deliver(0, 0);
        CHECK.due("told", doors.mayGo(), false);
        doors.release(1, 6, false);
        doors.isolate(1, 6, true);
        doors.step(1, 9);
        CHECK.due("PROOF at 5", doors.told(1, 6), 0);
        doors.step(1, 1);
        CHECK.due("PROOF at 0", doors.told(1, 6), 1);
        CHECK.due("the train is not told of it", doors.mayGo(), false);
        doors.deliver(0, 1);
        CHECK.due("told of it", doors.mayGo(), true);
    }

    private static void ownStateIsNeeded() {
        PlatformDoors doors = Check.opened();
        for (int side = 0; side < 2; side++) {
            for (int leaf = 0; leaf < 8; leaf++) {
                doors.contact(side, leaf, 0, 1);
                doors.contact(side, leaf, 1, 1);
            }
        }
        Check.exchange(doors, 1);
        CHECK.due("told as locked, but OPEN", doors.told(0, 5), 8);
        CHECK.due("OPEN", doors.mayGo(), false);
        doors.command(false);
        Check.exchange(doors, 1);
        CHECK.due("WARNING", doors.told(0, 1), 2);
        CHECK.due("WARNING", doors.mayGo(), false);
        Check.exchange(doors, 31);
        CHECK.due("CLOSED", doors.told(0, 1), 0);
        CHECK.due("CLOSED, leaves told as locked though open", doors.mayGo(), true);
    }

    private static void wholeStop() {
        PlatformDoors doors = Check.opened();
        CHECK.due("open", doors.mayGo(), false);
        doors.command(false);
        Check.exchange(doors, 33);
        CHECK.due("closing", doors.mayGo(), false);
        Check.exchange(doors, 5);
        CHECK.due("closed", doors.mayGo(), true);
        CHECK.due("breaches", doors.breaches(), 0);
    }
}
