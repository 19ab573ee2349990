/** Frames at their boundaries: when one is sent, 12 at most, the echo 0, and which are TAKEN. */
public final class LineEdgeTest {
    private static final Check CHECK = new Check();
    private static final int BAD = PlatformDoors.BAD;

    public static void main(String[] args) {
        for (int side = 0; side < 2; side++) {
            everyFifthStep(side);
            twelveAtMost(side);
            moreIsLost(side);
            fullByTwins(side);
            roomAgain(side);
            echoWithout(side);
            aboveAllThatWere(side);
            emptyLine(side);
        }
        bitsOfAllLeaves();
        isolationIsNotLearned();
        commandIsNotLearned();
        echoIsNotLearned();
        proofIsNotLearned();
        farNumbers();
        CHECK.end();
    }

    private static PlatformDoors stepped(int from, int steps) {
        PlatformDoors doors = new PlatformDoors();
        doors.step(from, steps);
        return doors;
    }

    private static void dueNumbers(String when, PlatformDoors doors, int side, int... want) {
        CHECK.due("frames " + when, doors.told(side, 4), want.length);
        for (int k = 0; k < want.length; k++) {
            CHECK.due("number of frame " + k + " " + when, doors.frame(side, k, 0), want[k]);
        }
        CHECK.due("none behind the last " + when, doors.frame(side, want.length, 0), BAD);
    }

    /** "In each step that is a multiple of 5 a side sends a frame, with the NUMBER step / 5". */
    private static void everyFifthStep(int from) {
        int to = 1 - from;
        dueNumbers("behind 4 steps", stepped(from, 4), to);
        dueNumbers("behind 5 steps", stepped(from, 5), to, 1);
        dueNumbers("behind 6 steps", stepped(from, 6), to, 1);
        dueNumbers("behind 9 steps", stepped(from, 9), to, 1);
        dueNumbers("behind 10 steps", stepped(from, 10), to, 1, 2);
        dueNumbers("to the sender itself", stepped(from, 10), from);
    }

    /** "at most 12". */
    private static void twelveAtMost(int from) {
        int to = 1 - from;
        dueNumbers("behind 59 steps", stepped(from, 59), to, 1, 2, 3, 4, 5, 6, 7, 8, 9, 10, 11);
        dueNumbers("behind 60 steps", stepped(from, 60), to, 1, 2, 3, 4, 5, 6, 7, 8, 9, 10, 11, 12);
        dueNumbers("behind 65 steps", stepped(from, 65), to, 1, 2, 3, 4, 5, 6, 7, 8, 9, 10, 11, 12);
        dueNumbers("behind 500 steps", stepped(from, 500), to, 1, 2, 3, 4, 5, 6, 7, 8, 9, 10, 11, 12);
    }

    /** "what would be more is lost": it does not come later, and the other line is another. */
    private static void moreIsLost(int from) {
        int to = 1 - from;
        PlatformDoors doors = stepped(from, 65);
        doors.drop(to, 11);
        dueNumbers("number 13 is lost", doors, to, 1, 2, 3, 4, 5, 6, 7, 8, 9, 10, 11);
        doors.step(from, 4);
        CHECK.due("no frame before the next multiple", doors.told(to, 4), 11);
        doors.step(from, 1);
        dueNumbers("number 14 is sent", doors, to, 1, 2, 3, 4, 5, 6, 7, 8, 9, 10, 11, 14);
        doors.step(to, 60);
        CHECK.due("the other line has room of its own", doors.told(from, 4), 12);
        CHECK.due("this one stays", doors.frame(to, 11, 0), 14);
    }

    private static void fullByTwins(int from) {
        int to = 1 - from;
        PlatformDoors doors = stepped(from, 5);
        for (int count = 2; count <= 12; count++) {
            CHECK.due("twin", doors.twin(to, 0), count);
        }
        CHECK.due("twin of 12", doors.twin(to, 0), BAD);
        doors.step(from, 5);
        dueNumbers("12 of number 1", doors, to, 1, 1, 1, 1, 1, 1, 1, 1, 1, 1, 1, 1);
    }

    private static void roomAgain(int from) {
        int to = 1 - from;
        PlatformDoors doors = stepped(from, 60);
        CHECK.due("deliver the first", doors.deliver(to, 0), 1);
        doors.step(from, 5);
        dueNumbers("one delivered, one sent", doors, to, 2, 3, 4, 5, 6, 7, 8, 9, 10, 11, 12, 13);
        CHECK.due("deliver the last", doors.deliver(to, 11), 1);
        CHECK.due("deliver the first, an older one", doors.deliver(to, 0), 0);
        doors.step(from, 5);
        dueNumbers("two delivered, one sent", doors, to, 3, 4, 5, 6, 7, 8, 9, 10, 11, 12, 14);
    }

    /** "the number of the newest frame that the side has taken (0 without: the ECHO)". */
    private static void echoWithout(int from) {
        int to = 1 - from;
        PlatformDoors doors = new PlatformDoors();
        doors.step(to, 15);
        doors.step(from, 5);
        CHECK.due("echo without any taken", doors.frame(to, 0, 1), 0);
        doors.deliver(from, 0);
        CHECK.due("echo of a frame that was sent before", doors.frame(to, 0, 1), 0);
        doors.step(from, 5);
        CHECK.due("echo of the first", doors.frame(to, 1, 1), 1);
        doors.deliver(from, 1);
        doors.deliver(from, 0);
        doors.step(from, 5);
        CHECK.due("echo of the newest, not of the last delivered", doors.frame(to, 2, 1), 3);
        doors.drop(from, 0);
        doors.step(to, 5);
        doors.drop(from, 0);
        doors.step(from, 5);
        CHECK.due("echo behind one that was lost", doors.frame(to, 3, 1), 3);
    }

    /** "TAKEN, if its number is above all that were": one more, the same, one less. */
    private static void aboveAllThatWere(int from) {
        int to = 1 - from;
        PlatformDoors doors = stepped(from, 20);
        CHECK.due("newest at first", doors.told(to, 3), 0);
        doors.twin(to, 1);
        CHECK.due("number 2", doors.deliver(to, 1), 1);
        CHECK.due("newest", doors.told(to, 3), 2);
        CHECK.due("number 2 again", doors.deliver(to, 1), 0);
        CHECK.due("number 1", doors.deliver(to, 0), 0);
        CHECK.due("newest still", doors.told(to, 3), 2);
        CHECK.due("number 3", doors.deliver(to, 0), 1);
        CHECK.due("newest then", doors.told(to, 3), 3);
        dueNumbers("gone, taken or not", doors, to, 4);
    }

    private static void emptyLine(int from) {
        int to = 1 - from;
        PlatformDoors doors = stepped(from, 5);
        CHECK.due("the only one", doors.deliver(to, 0), 1);
        CHECK.due("deliver of none", doors.deliver(to, 0), BAD);
        CHECK.due("drop of none", doors.drop(to, 0), BAD);
        CHECK.due("twin of none", doors.twin(to, 0), BAD);
        CHECK.due("frame of none", doors.frame(to, 0, 0), BAD);
        CHECK.due("what was taken stays", doors.told(to, 3), 1);
        doors.step(from, 5);
        dueNumbers("sent into the empty line", doors, to, 2);
    }

    /** "isolated leaves as bits": none, each one, all 8. */
    private static void bitsOfAllLeaves() {
        for (int side = 0; side < 2; side++) {
            PlatformDoors doors = new PlatformDoors();
            int bits = 0;
            for (int leaf = 0; leaf <= 8; leaf++) {
                doors.step(side, 5);
                CHECK.due("bits of the leaves below " + leaf, doors.frame(1 - side, leaf, 3), bits);
                if (leaf < 8) {
                    doors.isolate(side, leaf, true);
                    bits += 1 << leaf;
                }
            }
            CHECK.due("all 8", bits, 255);
        }
    }

    /** "otherwise nothing is learned from it", here of isolated leaves. */
    private static void isolationIsNotLearned() {
        for (int newer = 0; newer < 2; newer++) {
            PlatformDoors doors = Scenes.platformOpen();
            doors.isolate(0, 5, newer == 0);
            doors.step(0, 5);
            doors.isolate(0, 5, newer == 1);
            doors.step(0, 5);
            CHECK.due("the newer", doors.deliver(1, Scenes.last(doors, 1)), 1);
            CHECK.due("the older", doors.deliver(1, Scenes.last(doors, 1)), 0);
            doors.step(1, 1);
            CHECK.due("wanted open, by the newer", doors.leaf(1, 5, 1), 1 - newer);
        }
    }

    private static void commandIsNotLearned() {
        PlatformDoors doors = Scenes.platformOpen();
        doors.command(false);
        doors.step(0, 5);
        doors.command(true);
        doors.step(0, 5);
        CHECK.due("the newer, to open", doors.deliver(1, Scenes.last(doors, 1)), 1);
        CHECK.due("the older, to close", doors.deliver(1, Scenes.last(doors, 1)), 0);
        doors.step(1, 1);
        CHECK.due("OPEN, by the newer", doors.told(1, 1), 1);
    }

    private static void echoIsNotLearned() {
        PlatformDoors doors = new PlatformDoors();
        doors.step(0, 5);
        doors.step(1, 5);
        doors.deliver(0, 0);
        doors.step(0, 5);
        CHECK.due("number 2, with an echo", doors.deliver(1, 1), 1);
        CHECK.due("age", doors.told(1, 2), 0);
        CHECK.due("number 1, with none", doors.deliver(1, 0), 0);
        CHECK.due("age still", doors.told(1, 2), 0);
    }

    private static void proofIsNotLearned() {
        PlatformDoors doors = new PlatformDoors();
        Check.exchange(doors, 1);
        doors.step(1, 5);
        doors.contact(1, 0, 0, 2);
        doors.step(1, 5);
        CHECK.due("the newer, without", doors.deliver(0, 1), 1);
        CHECK.due("may go by the newer", doors.mayGo(), false);
        CHECK.due("the older, with the PROOF", doors.deliver(0, 0), 0);
        CHECK.due("may go by the newer still", doors.mayGo(), false);
    }

    /** The most steps that 512 calls can make, nearly. */
    private static void farNumbers() {
        PlatformDoors doors = new PlatformDoors();
        for (int i = 0; i < 480; i++) {
            doors.step(0, 500);
        }
        CHECK.due("steps", doors.told(0, 0), 240000);
        CHECK.due("the last frame that had room", doors.frame(1, 11, 0), 12);
        doors.drop(1, 11);
        doors.step(0, 5);
        CHECK.due("a frame of now", doors.frame(1, 11, 0), 48001);
        CHECK.due("deliver it", doors.deliver(1, 11), 1);
        doors.step(1, 5);
        CHECK.due("echo", doors.frame(0, 0, 1), 48001);
        doors.deliver(0, 0);
        CHECK.due("age", doors.told(0, 2), 0);
        CHECK.due("number 1 is old", doors.deliver(1, 0), 0);
    }
}
