/** Promises 11 to 14: frames that are sent, delivered, lost, doubled and read. */
public final class LineTest {
    private static final Check CHECK = new Check();
    private static final int BAD = PlatformDoors.BAD;

    public static void main(String[] args) {
        sentEveryFifthStep();
        whatAFrameHas();
        asBehindThatStep();
        takenIfNewer();
        dropped();
        doubled();
        twelveAtMost();
        CHECK.end();
    }

    private static void numbers(PlatformDoors doors, String when, int side, int... due) {
        CHECK.due(when + ": frames", doors.told(side, 4), due.length);
        for (int k = 0; k < due.length; k++) {
            CHECK.due(when + ": frame(" + side + ", " + k + ", 0)", doors.frame(side, k, 0), due[k]);
        }
        CHECK.due(when + ": none behind", doors.frame(side, due.length, 0), BAD);
    }

    private static void sentEveryFifthStep() {
        for (int side = 0; side < 2; side++) {
            PlatformDoors doors = new PlatformDoors();
            doors.step(side, 4);
            numbers(doors, "4 steps", 1 - side);
            doors.step(side, 1);
            numbers(doors, "5 steps", 1 - side, 1);
            numbers(doors, "5 steps", side);
            doors.step(side, 4);
            numbers(doors, "9 steps", 1 - side, 1);
            doors.step(side, 11);
            numbers(doors, "20 steps", 1 - side, 1, 2, 3, 4);
        }
    }

    private static void whatAFrameHas() {
        PlatformDoors doors = new PlatformDoors();
        doors.isolate(0, 0, true);
        doors.isolate(0, 7, true);
        doors.isolate(1, 3, true);
        doors.arrive(0, 0);
        doors.command(true);
        doors.step(0, 20);
        int[] train = {4, 0, 0, 129, 1, 1};
        int[] platform = {1, 4, 0, 8, 1, 0};
        doors.deliver(1, 3);
        doors.step(1, 5);
        for (int which = 0; which < 6; which++) {
            CHECK.due("of the train's, " + which, doors.frame(1, 2, which), which == 0 ? 3 : which == 4 ? 0 : train[which]);
            CHECK.due("of the platform's, " + which, doors.frame(0, 0, which), platform[which]);
        }
        doors.deliver(0, 0);
        doors.step(0, 5);
        CHECK.due("number", doors.frame(1, 3, 0), 5);
        CHECK.due("echo", doors.frame(1, 3, 1), 1);
        CHECK.due("READY", doors.frame(1, 3, 4), 1);
        doors.deliver(1, 3);
        doors.contact(1, 0, 0, 2);
        doors.step(1, 5);
        CHECK.due("OPEN", doors.frame(0, 0, 2), 1);
        CHECK.due("echo of the newest", doors.frame(0, 0, 1), 5);
        CHECK.due("no PROOF", doors.frame(0, 0, 4), 0);
        doors.deliver(0, 0);
        doors.command(false);
        doors.step(0, 5);
        CHECK.due("the train stays CLOSED", doors.frame(1, 3, 2), 0);
        CHECK.due("the command to close", doors.frame(1, 3, 5), 0);
        doors.deliver(1, 3);
        doors.step(1, 5);
        CHECK.due("WARNING", doors.frame(0, 0, 2), 2);
    }

    /** What is said in a frame is what is so behind its step, and later changes leave it alone. */
    private static void asBehindThatStep() {
        PlatformDoors doors = new PlatformDoors();
        doors.arrive(0, 0);
        doors.step(0, 20);
        doors.arrive(5000, 9);
        doors.isolate(0, 1, true);
        CHECK.due("READY in the 20th step", doors.frame(1, 3, 4), 1);
        CHECK.due("not in the 15th", doors.frame(1, 2, 4), 0);
        CHECK.due("not isolated then", doors.frame(1, 3, 3), 0);
        doors.release(1, 0, true);
        doors.step(1, 5);
        doors.release(1, 0, false);
        doors.step(1, 5);
        CHECK.due("no PROOF at 50", doors.frame(0, 0, 4), 0);
        CHECK.due("no PROOF at 25", doors.frame(0, 1, 4), 0);
        doors.step(1, 5);
        CHECK.due("PROOF in the very step that closes it", doors.frame(0, 2, 4), 1);
    }

    private static void takenIfNewer() {
        PlatformDoors doors = new PlatformDoors();
        doors.step(0, 25);
        CHECK.due("deliver number 3", doors.deliver(1, 2), 1);
        numbers(doors, "3 is gone", 1, 1, 2, 4, 5);
        CHECK.due("newest", doors.told(1, 3), 3);
        CHECK.due("deliver number 2", doors.deliver(1, 1), 0);
        numbers(doors, "2 is gone", 1, 1, 4, 5);
        CHECK.due("newest still", doors.told(1, 3), 3);
        CHECK.due("deliver number 5", doors.deliver(1, 2), 1);
        CHECK.due("deliver number 4", doors.deliver(1, 1), 0);
        CHECK.due("deliver number 1", doors.deliver(1, 0), 0);
        CHECK.due("newest at last", doors.told(1, 3), 5);
        CHECK.due("deliver none", doors.deliver(1, 0), BAD);
        nothingIsLearned();
    }

    private static void nothingIsLearned() {
        PlatformDoors doors = Check.opened();
        doors.step(0, 5);
        doors.twin(1, 0);
        doors.command(false);
        doors.step(0, 5);
        CHECK.due("taken", doors.deliver(1, 2), 1);
        CHECK.due("an older one", doors.deliver(1, 0), 0);
        CHECK.due("its twin", doors.deliver(1, 0), 0);
        doors.step(1, 1);
        CHECK.due("the command to close stands", doors.told(1, 1), 2);
    }

    private static void dropped() {
        PlatformDoors doors = new PlatformDoors();
        doors.step(1, 20);
        CHECK.due("drop number 2", doors.drop(0, 1), 3);
        numbers(doors, "2 is lost", 0, 1, 3, 4);
        CHECK.due("nothing was taken", doors.told(0, 3), 0);
        CHECK.due("drop number 4", doors.drop(0, 2), 2);
        CHECK.due("drop none", doors.drop(0, 2), BAD);
        CHECK.due("drop number 1", doors.drop(0, 0), 1);
        CHECK.due("drop number 3", doors.drop(0, 0), 0);
        CHECK.due("drop none", doors.drop(0, 0), BAD);
        doors.step(1, 5);
        numbers(doors, "a frame after that", 0, 5);
    }

    private static void doubled() {
        PlatformDoors doors = new PlatformDoors();
        doors.isolate(0, 2, true);
        doors.command(true);
        doors.step(0, 15);
        CHECK.due("twin of number 1", doors.twin(1, 0), 4);
        numbers(doors, "1 is there twice", 1, 1, 1, 2, 3);
        CHECK.due("twin of number 3", doors.twin(1, 3), 5);
        numbers(doors, "3 is there twice", 1, 1, 1, 2, 3, 3);
        for (int which = 0; which < 6; which++) {
            CHECK.due("of the twin, " + which, doors.frame(1, 1, which), doors.frame(1, 0, which));
        }
        CHECK.due("its isolated leaves", doors.frame(1, 1, 3), 4);
        CHECK.due("its command", doors.frame(1, 1, 5), 1);
        CHECK.due("twin of none", doors.twin(1, 5), BAD);
        CHECK.due("deliver 3", doors.deliver(1, 3), 1);
        CHECK.due("deliver 3 again", doors.deliver(1, 3), 0);
        doors.step(0, 5);
        numbers(doors, "a frame after that", 1, 1, 1, 2, 4);
    }

    private static void twelveAtMost() {
        PlatformDoors doors = new PlatformDoors();
        doors.step(1, 60);
        numbers(doors, "60 steps", 0, 1, 2, 3, 4, 5, 6, 7, 8, 9, 10, 11, 12);
        CHECK.due("twin of the first of 12", doors.twin(0, 0), BAD);
        doors.step(1, 10);
        numbers(doors, "two were lost", 0, 1, 2, 3, 4, 5, 6, 7, 8, 9, 10, 11, 12);
        CHECK.due("drop the last", doors.drop(0, 11), 11);
        CHECK.due("twin of the first of 11", doors.twin(0, 0), 12);
        CHECK.due("twin of the first of 12", doors.twin(0, 0), BAD);
        CHECK.due("drop the second", doors.drop(0, 1), 11);
        doors.step(1, 5);
        numbers(doors, "a frame after that", 0, 1, 2, 3, 4, 5, 6, 7, 8, 9, 10, 11, 15);
        CHECK.due("deliver the last", doors.deliver(0, 11), 1);
        CHECK.due("newest", doors.told(0, 3), 15);
        CHECK.due("none to the other side", doors.told(1, 4), 0);
    }
}
