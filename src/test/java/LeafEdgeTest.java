/** Leaves at their boundaries: positions, what is felt, retries, reopening, both countdowns. */
public final class LeafEdgeTest {
    private static final Check CHECK = new Check();
    private static final int POSITION = 0, WANTED = 1, RETRIES = 4, STAFF = 5, REOPENING = 6, OBSTRUCTED = 7;

    public static void main(String[] args) {
        for (int side = 0; side < 2; side++) {
            wantedOpenHundredAtMost(side);
            releasedHundredAtMost(side);
            releasedFromNinetyFive(side);
            zeroAtLeast(side);
            feltAtMostForty(side);
            feltAboveZeroAlone(side);
            feltInTheLastStepObstructed(side);
            notFeltWhileWantedOpen(side);
            notFeltWhileReleased(side);
            fewerThanThreeRetries(side);
            staffStaysWhereItIs(side);
            fortyStepsBehind(side);
            retriesUntilZero(side);
            staffUntilZero(side);
            staffWhileMovedByHand(side);
            obstructedForNoMore(side);
            countdownsWhileReleased(side);
            firstAndLastLeafIsolated(side);
            isolatedThoughReleased(side);
        }
        CHECK.end();
    }

    private static void due(PlatformDoors doors, String when, int side, int which, int want) {
        CHECK.due("leaf(" + side + ", 0, " + which + ") " + when, doors.leaf(side, 0, which), want);
    }

    /** "Wanted open: 5 more (100 at most)". */
    private static void wantedOpenHundredAtMost(int side) {
        PlatformDoors doors = Scenes.open(side);
        due(doors, "in the first step wanted open", side, POSITION, 5);
        doors.step(side, 18);
        due(doors, "in the 19th step wanted open", side, POSITION, 95);
        doors.step(side, 1);
        due(doors, "in the 20th step wanted open", side, POSITION, 100);
        doors.step(side, 1);
        due(doors, "in the 21st step wanted open", side, POSITION, 100);
        due(doors, "in the 21st step wanted open", side, WANTED, 1);
    }

    /** "RELEASED: its position is 10 more (100 at most)". */
    private static void releasedHundredAtMost(int side) {
        PlatformDoors doors = new PlatformDoors();
        doors.release(side, 0, true);
        due(doors, "released, before a step", side, POSITION, 0);
        doors.step(side, 1);
        due(doors, "released for 1 step", side, POSITION, 10);
        doors.step(side, 8);
        due(doors, "released for 9 steps", side, POSITION, 90);
        doors.step(side, 1);
        due(doors, "released for 10 steps", side, POSITION, 100);
        doors.step(side, 1);
        due(doors, "released for 11 steps", side, POSITION, 100);
        due(doors, "released for 11 steps", side, WANTED, 0);
    }

    private static void releasedFromNinetyFive(int side) {
        PlatformDoors doors = Scenes.open(side);
        doors.step(side, 17);
        due(doors, "wanted open", side, POSITION, 90);
        doors.release(side, 0, true);
        doors.step(side, 1);
        due(doors, "10 more, and not 15", side, POSITION, 100);
        doors = Scenes.open(side);
        doors.step(side, 15);
        doors.release(side, 0, true);
        doors.step(side, 1);
        due(doors, "10 more than 80", side, POSITION, 90);
        doors = Scenes.open(side);
        doors.step(side, 18);
        due(doors, "wanted open", side, POSITION, 95);
        doors.release(side, 0, true);
        doors.step(side, 1);
        due(doors, "10 more than 95, 100 at most", side, POSITION, 100);
        due(doors, "released, but wanted open too", side, WANTED, 1);
    }

    /** "else 5 less (0 at least)". */
    private static void zeroAtLeast(int side) {
        PlatformDoors doors = Scenes.leafAt(side, 100);
        doors.step(side, 1);
        due(doors, "a step behind 100", side, POSITION, 95);
        doors.step(side, 18);
        due(doors, "19 steps behind 100", side, POSITION, 5);
        doors.step(side, 1);
        due(doors, "20 steps behind 100", side, POSITION, 0);
        doors.step(side, 1);
        due(doors, "21 steps behind 100", side, POSITION, 0);
        doors.step(side, 500);
        due(doors, "521 steps behind 100", side, POSITION, 0);
    }

    /** "if it is obstructed, and the position is at most 40". */
    private static void feltAtMostForty(int side) {
        PlatformDoors doors = Scenes.leafAt(side, 50);
        doors.obstruct(side, 0, 1000);
        doors.step(side, 1);
        due(doors, "at 50, not felt", side, POSITION, 45);
        doors.step(side, 1);
        due(doors, "at 45, not felt", side, POSITION, 40);
        due(doors, "at 45, not felt", side, RETRIES, 0);
        due(doors, "at 45, not felt", side, REOPENING, 0);
        doors.step(side, 1);
        due(doors, "at 40, felt", side, POSITION, 40);
        due(doors, "at 40, felt", side, RETRIES, 1);
        due(doors, "at 40, felt", side, REOPENING, 40);
        due(doors, "at 40, felt", side, WANTED, 0);
    }

    /** "Otherwise, if it is above 0". */
    private static void feltAboveZeroAlone(int side) {
        PlatformDoors doors = Scenes.leafAt(side, 10);
        doors.step(side, 1);
        doors.obstruct(side, 0, 10);
        doors.step(side, 1);
        due(doors, "at 5, felt", side, POSITION, 5);
        due(doors, "at 5, felt", side, RETRIES, 1);
        doors = Scenes.leafAt(side, 10);
        doors.step(side, 2);
        doors.obstruct(side, 0, 10);
        doors.step(side, 1);
        due(doors, "at 0, not felt", side, POSITION, 0);
        due(doors, "at 0, not felt", side, RETRIES, 0);
        due(doors, "at 0, not felt", side, REOPENING, 0);
        due(doors, "at 0, not felt", side, OBSTRUCTED, 9);
    }

    private static void feltInTheLastStepObstructed(int side) {
        for (int steps = 0; steps <= 3; steps++) {
            PlatformDoors doors = Scenes.leafAt(side, 50);
            doors.obstruct(side, 0, steps);
            doors.step(side, 3);
            due(doors, "obstructed for " + steps, side, RETRIES, steps == 3 ? 1 : 0);
            due(doors, "obstructed for " + steps, side, POSITION, steps == 3 ? 40 : 35);
            due(doors, "obstructed for " + steps, side, OBSTRUCTED, 0);
        }
        PlatformDoors doors = Scenes.leafAt(side, 40);
        doors.obstruct(side, 0, 9);
        doors.obstruct(side, 0, 0);
        doors.step(side, 1);
        due(doors, "obstructed no more", side, POSITION, 35);
        due(doors, "obstructed no more", side, RETRIES, 0);
    }

    private static void notFeltWhileWantedOpen(int side) {
        PlatformDoors doors = Scenes.open(side);
        doors.obstruct(side, 0, 100);
        doors.step(side, 10);
        due(doors, "obstructed while wanted open", side, POSITION, 55);
        due(doors, "obstructed while wanted open", side, RETRIES, 0);
        due(doors, "obstructed while wanted open", side, OBSTRUCTED, 90);
    }

    /** "and nothing else". */
    private static void notFeltWhileReleased(int side) {
        PlatformDoors doors = Scenes.leafAt(side, 20);
        doors.obstruct(side, 0, 100);
        doors.release(side, 0, true);
        doors.step(side, 2);
        due(doors, "obstructed while released", side, POSITION, 40);
        due(doors, "obstructed while released", side, RETRIES, 0);
        due(doors, "obstructed while released", side, REOPENING, 0);
        due(doors, "obstructed while released", side, STAFF, 0);
    }

    /** It has felt so often; the last time in the last step, at 40. */
    private static PlatformDoors felt(int side, int times) {
        PlatformDoors doors = Scenes.leafAt(side, 40);
        doors.obstruct(side, 0, 1000);
        doors.step(side, 1);
        for (int i = 1; i < times; i++) {
            // 40 steps of reopening, 12 from 100 to 40, and one to feel.
            doors.step(side, 53);
        }
        return doors;
    }

    /** "with fewer than 3 RETRIES it has one more ... with 3 it calls STAFF". */
    private static void fewerThanThreeRetries(int side) {
        for (int times = 1; times <= 4; times++) {
            PlatformDoors doors = felt(side, times);
            boolean called = times == 4;
            due(doors, "felt " + times, side, POSITION, 40);
            due(doors, "felt " + times, side, RETRIES, called ? 3 : times);
            due(doors, "felt " + times, side, STAFF, called ? 1 : 0);
            due(doors, "felt " + times, side, REOPENING, called ? 0 : 40);
            doors.step(side, 1);
            due(doors, "a step behind felt " + times, side, POSITION, called ? 40 : 45);
            due(doors, "a step behind felt " + times, side, WANTED, called ? 0 : 1);
        }
        PlatformDoors doors = felt(side, 3);
        doors.step(side, 52);
        due(doors, "before the fourth time", side, STAFF, 0);
        due(doors, "before the fourth time", side, POSITION, 40);
    }

    private static void staffStaysWhereItIs(int side) {
        PlatformDoors doors = felt(side, 4);
        doors.step(side, 500);
        due(doors, "staff called long since", side, POSITION, 40);
        due(doors, "staff called long since", side, RETRIES, 3);
        due(doors, "staff called long since", side, STAFF, 1);
        int left = 1000 - 1 - 3 * 53 - 500;
        due(doors, "staff called long since", side, OBSTRUCTED, left);
        doors.step(side, left);
        due(doors, "in the last step obstructed", side, POSITION, 40);
        doors.step(side, 1);
        due(doors, "in the first step that is not", side, POSITION, 35);
        due(doors, "in the first step that is not", side, STAFF, 1);
    }

    /** "is reopening from now on, for 40 steps behind this one". */
    private static void fortyStepsBehind(int side) {
        PlatformDoors doors = felt(side, 1);
        for (int behind = 1; behind <= 40; behind++) {
            doors.step(side, 1);
            due(doors, behind + " behind", side, WANTED, 1);
            due(doors, behind + " behind", side, REOPENING, 40 - behind);
            due(doors, behind + " behind", side, POSITION, Math.min(100, 40 + 5 * behind));
        }
        doors.step(side, 1);
        due(doors, "41 behind", side, WANTED, 0);
        due(doors, "41 behind", side, REOPENING, 0);
        due(doors, "41 behind", side, POSITION, 95);
    }

    /** "At 0, not wanted open and not released, its retries are 0 again". */
    private static void retriesUntilZero(int side) {
        PlatformDoors doors = felt(side, 2);
        doors.obstruct(side, 0, 0);
        doors.step(side, 40 + 19);
        due(doors, "at 5", side, POSITION, 5);
        due(doors, "at 5", side, RETRIES, 2);
        doors.step(side, 1);
        due(doors, "at 0", side, POSITION, 0);
        due(doors, "at 0", side, RETRIES, 0);
        doors.release(side, 0, true);
        doors.step(side, 4);
        doors.release(side, 0, false);
        doors.obstruct(side, 0, 1);
        doors.step(side, 1);
        due(doors, "felt again", side, RETRIES, 1);
    }

    /** "and staff is not called for it any more". */
    private static void staffUntilZero(int side) {
        PlatformDoors doors = felt(side, 4);
        doors.obstruct(side, 0, 0);
        doors.step(side, 7);
        due(doors, "at 5", side, POSITION, 5);
        due(doors, "at 5", side, STAFF, 1);
        due(doors, "at 5", side, RETRIES, 3);
        doors.step(side, 1);
        due(doors, "at 0", side, POSITION, 0);
        due(doors, "at 0", side, STAFF, 0);
        due(doors, "at 0", side, RETRIES, 0);
    }

    /** Staff is called until it is at 0, however it moves until then. */
    private static void staffWhileMovedByHand(int side) {
        PlatformDoors doors = felt(side, 4);
        doors.release(side, 0, true);
        doors.step(side, 6);
        due(doors, "by hand", side, POSITION, 100);
        due(doors, "by hand", side, STAFF, 1);
        due(doors, "by hand", side, RETRIES, 3);
        doors.release(side, 0, false);
        doors.step(side, 12);
        due(doors, "at 40 again", side, POSITION, 40);
        doors.step(side, 1);
        due(doors, "felt with 3 retries", side, POSITION, 40);
        due(doors, "felt with 3 retries", side, RETRIES, 3);
        due(doors, "felt with 3 retries", side, REOPENING, 0);
    }

    /** "obstructed for one step less", and never below 0. */
    private static void obstructedForNoMore(int side) {
        PlatformDoors doors = new PlatformDoors();
        doors.obstruct(side, 0, 1000);
        doors.step(1 - side, 500);
        due(doors, "by the other side's steps", side, OBSTRUCTED, 1000);
        doors.step(side, 500);
        doors.step(side, 499);
        due(doors, "999 steps later", side, OBSTRUCTED, 1);
        doors.step(side, 1);
        due(doors, "1000 steps later", side, OBSTRUCTED, 0);
        doors.step(side, 1);
        due(doors, "1001 steps later", side, OBSTRUCTED, 0);
        CHECK.due("for how many it was", doors.obstruct(side, 0, 5), 0);
    }

    /** "Behind that" is behind every move, also one by hand. */
    private static void countdownsWhileReleased(int side) {
        PlatformDoors doors = felt(side, 1);
        doors.release(side, 0, true);
        doors.step(side, 39);
        due(doors, "released for 39 steps", side, REOPENING, 1);
        due(doors, "released for 39 steps", side, OBSTRUCTED, 960);
        doors.step(side, 1);
        due(doors, "released for 40 steps", side, REOPENING, 0);
        due(doors, "released for 40 steps", side, WANTED, 1);
        doors.step(side, 1);
        due(doors, "released for 41 steps", side, REOPENING, 0);
        due(doors, "released for 41 steps", side, WANTED, 0);
        due(doors, "released for 41 steps", side, POSITION, 100);
    }

    /** "neither isolated nor told as isolated in what was taken last". */
    private static void firstAndLastLeafIsolated(int side) {
        for (int by = 0; by < 2; by++) {
            PlatformDoors doors = new PlatformDoors();
            doors.arrive(0, 0);
            doors.command(true);
            doors.isolate(by, 0, true);
            doors.isolate(by, 7, true);
            Check.exchange(doors, 12);
            for (int leaf = 0; leaf < 8; leaf++) {
                int want = leaf == 0 || leaf == 7 ? 0 : 1;
                CHECK.due("wanted open, " + leaf + " of " + side + ", isolated by " + by, doors.leaf(side, leaf, 1), want);
                CHECK.due("position, " + leaf + " of " + side + ", isolated by " + by, doors.leaf(side, leaf, 0), 100 * want);
            }
            doors.isolate(by, 0, false);
            Check.exchange(doors, 1);
            doors.step(side, 1);
            CHECK.due("wanted open, in use again", doors.leaf(side, 0, 1), 1);
            CHECK.due("wanted open, isolated still", doors.leaf(side, 7, 1), 0);
        }
    }

    private static void isolatedThoughReleased(int side) {
        PlatformDoors doors = Scenes.open(side);
        doors.isolate(side, 0, true);
        doors.release(side, 0, true);
        doors.step(side, 1);
        due(doors, "isolated and released", side, POSITION, 15);
        due(doors, "isolated and released", side, WANTED, 0);
    }
}
