/** LOCKED, TOLD as locked, the PROOF and MAY GO at their boundaries. */
public final class LockEdgeTest {
    private static final Check CHECK = new Check();
    private static final int WANTED = 1, LOCKED = 2, TOLD = 3;

    public static void main(String[] args) {
        for (int side = 0; side < 2; side++) {
            positionZeroAlone(side);
            releasedNow(side);
            wantedOpenAtOnce(side);
            bothContacts(side);
            eachLeafCounts(side);
            noLeafAtAll(side);
        }
        proofNeedsEveryLeaf();
        proofInTheStepThatCloses();
        mayGoNeedsEveryOwnLeaf();
        mayGoNeedsTheProofThatWasTaken();
        mayGoInTheStepThatIsClosed();
        CHECK.end();
    }

    private static void due(PlatformDoors doors, String when, int side, int which, int want) {
        CHECK.due("leaf(" + side + ", 0, " + which + ") " + when, doors.leaf(side, 0, which), want);
    }

    /** "if its position is 0". */
    private static void positionZeroAlone(int side) {
        PlatformDoors doors = Scenes.leafAt(side, 10);
        due(doors, "at 10", side, LOCKED, 0);
        doors.step(side, 1);
        due(doors, "at 5", side, LOCKED, 0);
        due(doors, "at 5", side, TOLD, 0);
        doors.step(side, 1);
        due(doors, "at 0", side, LOCKED, 1);
        due(doors, "at 0", side, TOLD, 1);
    }

    /** "nor released (now)". */
    private static void releasedNow(int side) {
        PlatformDoors doors = new PlatformDoors();
        due(doors, "at first", side, LOCKED, 1);
        doors.release(side, 0, true);
        due(doors, "released, without a step", side, LOCKED, 0);
        due(doors, "released, without a step", side, TOLD, 0);
        CHECK.due("told as locked", doors.told(side, 5), 7);
        doors.release(side, 0, false);
        due(doors, "not any more, without a step", side, LOCKED, 1);
        CHECK.due("told as locked", doors.told(side, 5), 8);
    }

    private static void wantedOpenAtOnce(int side) {
        PlatformDoors doors = Scenes.open(side);
        due(doors, "in the first step wanted open", side, WANTED, 1);
        due(doors, "in the first step wanted open", side, LOCKED, 0);
        CHECK.due("told as locked", doors.told(side, 5), 0);
    }

    /** "if both its contacts say so": each of RIGHT, locked and not, with each. */
    private static void bothContacts(int side) {
        for (int first = 0; first < 3; first++) {
            for (int second = 0; second < 3; second++) {
                PlatformDoors doors = new PlatformDoors();
                doors.contact(side, 0, 0, first);
                doors.contact(side, 0, 1, second);
                String when = "with contacts " + first + " and " + second;
                due(doors, "locked, " + when, side, TOLD, first != 2 && second != 2 ? 1 : 0);
                due(doors, "locked, " + when, side, LOCKED, 1);
                doors.release(side, 0, true);
                doors.step(side, 1);
                due(doors, "not locked, " + when, side, TOLD, first == 1 && second == 1 ? 1 : 0);
                due(doors, "not locked, " + when, side, LOCKED, 0);
            }
        }
    }

    private static void eachLeafCounts(int side) {
        for (int leaf = 0; leaf < 8; leaf++) {
            PlatformDoors doors = new PlatformDoors();
            CHECK.due("told as locked at first", doors.told(side, 5), 8);
            doors.contact(side, leaf, leaf % 2, 2);
            CHECK.due("told as locked without " + leaf, doors.told(side, 5), 7);
            CHECK.due("of the other side", doors.told(1 - side, 5), 8);
        }
    }

    private static void noLeafAtAll(int side) {
        PlatformDoors doors = new PlatformDoors();
        for (int leaf = 0; leaf < 8; leaf++) {
            doors.contact(side, leaf, 1, 2);
            CHECK.due("told as locked without 0 to " + leaf, doors.told(side, 5), 7 - leaf);
        }
    }

    /** "all leaves of the platform are told as locked": 7 are too few. */
    private static void proofNeedsEveryLeaf() {
        for (int leaf = 0; leaf < 8; leaf++) {
            PlatformDoors doors = new PlatformDoors();
            CHECK.due("PROOF at first", doors.told(1, 6), 1);
            doors.contact(0, leaf, 0, 2);
            CHECK.due("PROOF, whatever the train's leaf says", doors.told(1, 6), 1);
            doors.contact(1, leaf, 0, 2);
            CHECK.due("PROOF without leaf " + leaf, doors.told(1, 6), 0);
            doors.step(1, 5);
            CHECK.due("PROOF in a frame without leaf " + leaf, doors.frame(0, 0, 4), 0);
            doors.contact(1, leaf, 0, 0);
            CHECK.due("PROOF with it", doors.told(1, 6), 1);
            doors.step(1, 5);
            CHECK.due("PROOF in a frame with it", doors.frame(0, 1, 4), 1);
            CHECK.due("PROOF in the frame before stays", doors.frame(0, 0, 4), 0);
        }
    }

    /** "all as they are behind that step": a leaf at 10 behind step 3 is at 0 behind step 5. */
    private static void proofInTheStepThatCloses() {
        for (int opened = 2; opened <= 4; opened++) {
            PlatformDoors doors = new PlatformDoors();
            doors.step(1, opened - 1);
            doors.release(1, 4, true);
            doors.step(1, 1);
            doors.release(1, 4, false);
            doors.step(1, 5 - opened);
            CHECK.due("PROOF in the frame of step 5, opened in " + opened, doors.frame(0, 0, 4), opened <= 3 ? 1 : 0);
        }
    }

    /** A train that may go: CLOSED, all told as locked, at age 0 with the PROOF. */
    private static PlatformDoors mayGo() {
        PlatformDoors doors = new PlatformDoors();
        Check.exchange(doors, 1);
        doors.step(1, 5);
        doors.deliver(0, 0);
        return doors;
    }

    private static void mayGoNeedsEveryOwnLeaf() {
        for (int leaf = 0; leaf < 8; leaf++) {
            PlatformDoors doors = mayGo();
            CHECK.due("may go with all 8", doors.mayGo(), true);
            doors.contact(0, leaf, 1, 2);
            CHECK.due("may go without leaf " + leaf, doors.mayGo(), false);
            doors.contact(0, leaf, 1, 0);
            doors.release(0, leaf, true);
            CHECK.due("may go with leaf " + leaf + " released", doors.mayGo(), false);
            doors.release(0, leaf, false);
            CHECK.due("may go with all 8 again", doors.mayGo(), true);
        }
    }

    private static void mayGoNeedsTheProofThatWasTaken() {
        for (int leaf = 0; leaf < 8; leaf++) {
            PlatformDoors doors = mayGo();
            doors.contact(1, leaf, 1, 2);
            doors.step(1, 5);
            CHECK.due("may go before it is told of leaf " + leaf, doors.mayGo(), true);
            doors.deliver(0, 0);
            CHECK.due("may go, told of leaf " + leaf, doors.mayGo(), false);
            doors.contact(1, leaf, 1, 0);
            doors.step(1, 5);
            CHECK.due("may go before it is told of all", doors.mayGo(), false);
            doors.deliver(0, 0);
            CHECK.due("may go, told of all", doors.mayGo(), true);
        }
    }

    /** "its state is CLOSED": not in the 149th step of WARNING, but in the 150th. */
    private static void mayGoInTheStepThatIsClosed() {
        PlatformDoors doors = Scenes.trainOpen();
        for (int side = 0; side < 2; side++) {
            for (int leaf = 0; leaf < 8; leaf++) {
                doors.contact(side, leaf, 0, 1);
                doors.contact(side, leaf, 1, 1);
            }
        }
        Check.exchange(doors, 1);
        doors.step(1, 5);
        while (doors.told(0, 4) > 0) {
            Scenes.deliverLast(doors, 0);
        }
        CHECK.due("may go while OPEN", doors.mayGo(), false);
        CHECK.due("all told as locked", doors.told(0, 5) + doors.told(1, 5), 16);
        doors.command(false);
        doors.step(0, 1);
        doors.step(0, 130);
        while (doors.told(1, 4) > 0) {
            doors.drop(1, 0);
        }
        doors.step(0, 19);
        Scenes.deliverLast(doors, 1);
        doors.step(1, 5);
        Scenes.deliverLast(doors, 0);
        CHECK.due("state in the 149th step", doors.told(0, 1), 2);
        CHECK.due("fresh in the 149th step", doors.told(0, 2) <= 24, true);
        CHECK.due("may go in the 149th step", doors.mayGo(), false);
        doors.step(0, 1);
        CHECK.due("state in the 150th step", doors.told(0, 1), 0);
        CHECK.due("may go in the 150th step", doors.mayGo(), true);
    }
}
