/** Promises 7 to 10 and 15: isolated, released and obstructed leaves, their contacts and moves. */
public final class LeafTest {
    private static final Check CHECK = new Check();

    public static void main(String[] args) {
        opensAndCloses();
        isolatedAsAPair();
        isolatedWhileOpen();
        releasedByHand();
        releasedWhileClosing();
        feelsAnObstruction();
        feelsAtFortyAlone();
        obstructionRunsOut();
        staffIsCalled();
        reopeningThoughIsolated();
        contacts();
        CHECK.end();
    }

    private static void due(PlatformDoors doors, String when, int side, int leaf, int which, int want) {
        CHECK.due(when + ": leaf(" + side + ", " + leaf + ", " + which + ")", doors.leaf(side, leaf, which), want);
    }

    /** The platform alone, OPEN in its step 26 by one frame of the train; its echo is frame 5. */
    private static PlatformDoors platformOpens() {
        PlatformDoors doors = new PlatformDoors();
        doors.arrive(0, 0);
        doors.command(true);
        doors.step(1, 25);
        doors.deliver(0, 4);
        doors.step(0, 20);
        doors.deliver(1, 3);
        doors.step(1, 1);
        CHECK.due("the platform is OPEN", doors.told(1, 1), 1);
        return doors;
    }

    /** The same, wholly open, and then CLOSED since its step 251 with all leaves at 95. */
    private static PlatformDoors platformCloses() {
        PlatformDoors doors = platformOpens();
        doors.step(1, 75);
        CHECK.due("stale, so WARNING", doors.told(1, 1), 2);
        doors.step(1, 149);
        CHECK.due("still WARNING", doors.told(1, 1), 2);
        due(doors, "still WARNING", 1, 0, 0, 100);
        doors.step(1, 1);
        CHECK.due("CLOSED", doors.told(1, 1), 0);
        CHECK.due("CLOSED after steps", doors.told(1, 0), 251);
        due(doors, "CLOSED", 1, 0, 0, 95);
        due(doors, "CLOSED", 1, 0, 1, 0);
        return doors;
    }

    private static void opensAndCloses() {
        PlatformDoors doors = platformOpens();
        for (int leaf = 0; leaf < 8; leaf++) {
            due(doors, "first step OPEN", 1, leaf, 0, 5);
            due(doors, "first step OPEN", 1, leaf, 1, 1);
            due(doors, "first step OPEN", 1, leaf, 2, 0);
            due(doors, "first step OPEN", 1, leaf, 3, 0);
        }
        doors.step(1, 18);
        due(doors, "19 steps OPEN", 1, 7, 0, 95);
        doors.step(1, 1);
        due(doors, "20 steps OPEN", 1, 7, 0, 100);
        doors.step(1, 1);
        due(doors, "21 steps OPEN", 1, 7, 0, 100);
        doors = platformCloses();
        doors.step(1, 18);
        due(doors, "closing", 1, 7, 0, 5);
        due(doors, "closing", 1, 7, 2, 0);
        doors.step(1, 1);
        due(doors, "closed", 1, 7, 0, 0);
        due(doors, "closed", 1, 7, 2, 1);
        doors.step(1, 1);
        due(doors, "closed still", 1, 7, 0, 0);
    }

    private static void isolatedAsAPair() {
        PlatformDoors doors = new PlatformDoors();
        CHECK.due("isolate", doors.isolate(0, 1, true), 0);
        CHECK.due("isolate again", doors.isolate(0, 1, true), 1);
        CHECK.due("isolate the other's", doors.isolate(1, 6, true), 0);
        doors.arrive(0, 0);
        doors.command(true);
        Check.exchange(doors, 13);
        for (int side = 0; side < 2; side++) {
            for (int leaf = 0; leaf < 8; leaf++) {
                boolean out = leaf == 1 || leaf == 6;
                due(doors, "isolated 0/1 and 1/6", side, leaf, 0, out ? 0 : 100);
                due(doors, "isolated 0/1 and 1/6", side, leaf, 1, out ? 0 : 1);
            }
        }
        CHECK.due("not isolated any more", doors.isolate(0, 1, false), 1);
        CHECK.due("not isolated any more, again", doors.isolate(0, 1, false), 0);
        doors.step(0, 1);
        due(doors, "in use again", 0, 1, 0, 5);
        doors.step(1, 1);
        due(doors, "not told of that yet", 1, 1, 0, 0);
        doors.step(0, 4);
        doors.deliver(1, 0);
        doors.step(1, 1);
        due(doors, "told of that", 1, 1, 0, 5);
    }

    private static void isolatedWhileOpen() {
        PlatformDoors doors = Check.opened();
        doors.isolate(1, 0, true);
        doors.step(1, 1);
        due(doors, "isolated while open", 1, 0, 0, 95);
        due(doors, "isolated while open", 1, 0, 1, 0);
        doors.step(1, 19);
        due(doors, "isolated while open", 1, 0, 2, 1);
        due(doors, "its neighbour", 1, 1, 0, 100);
    }

    private static void releasedByHand() {
        PlatformDoors doors = new PlatformDoors();
        CHECK.due("release", doors.release(0, 3, true), 0);
        CHECK.due("release again", doors.release(0, 3, true), 1);
        due(doors, "released now", 0, 3, 2, 0);
        due(doors, "released now", 0, 3, 0, 0);
        doors.step(0, 1);
        due(doors, "released for a step", 0, 3, 0, 10);
        due(doors, "released for a step", 0, 3, 1, 0);
        due(doors, "its neighbour", 0, 2, 0, 0);
        doors.step(0, 8);
        due(doors, "released for 9 steps", 0, 3, 0, 90);
        doors.step(0, 5);
        due(doors, "released for 14 steps", 0, 3, 0, 100);
        CHECK.due("release ends", doors.release(0, 3, false), 1);
        CHECK.due("release ends again", doors.release(0, 3, false), 0);
        doors.step(0, 19);
        due(doors, "not released any more", 0, 3, 0, 5);
        doors.step(0, 1);
        due(doors, "not released any more", 0, 3, 0, 0);
        due(doors, "not released any more", 0, 3, 2, 1);
        doors.release(0, 3, true);
        doors.release(0, 3, false);
        due(doors, "released and not, without a step", 0, 3, 2, 1);
    }

    /** Released goes before wanted open and before obstructed; both countdowns go on. */
    private static void releasedWhileClosing() {
        PlatformDoors doors = platformCloses();
        doors.obstruct(1, 0, 50);
        doors.step(1, 12);
        due(doors, "it felt", 1, 0, 4, 1);
        due(doors, "it felt", 1, 0, 6, 40);
        due(doors, "it felt", 1, 0, 0, 40);
        doors.release(1, 0, true);
        doors.step(1, 1);
        due(doors, "released while reopening", 1, 0, 0, 50);
        due(doors, "released while reopening", 1, 0, 1, 1);
        due(doors, "released while reopening", 1, 0, 4, 1);
        due(doors, "released while reopening", 1, 0, 6, 39);
        due(doors, "released while reopening", 1, 0, 7, 37);
        doors.step(1, 45);
        due(doors, "all run out", 1, 0, 6, 0);
        due(doors, "all run out", 1, 0, 7, 0);
        due(doors, "all run out", 1, 0, 0, 100);
        due(doors, "all run out", 1, 0, 4, 1);
    }

    private static void feelsAnObstruction() {
        PlatformDoors doors = platformCloses();
        CHECK.due("obstruct", doors.obstruct(1, 2, 1000), 0);
        doors.step(1, 11);
        due(doors, "at 40 but not felt", 1, 2, 0, 40);
        due(doors, "at 40 but not felt", 1, 2, 4, 0);
        due(doors, "at 40 but not felt", 1, 2, 7, 989);
        doors.step(1, 1);
        due(doors, "felt", 1, 2, 0, 40);
        due(doors, "felt", 1, 2, 1, 0);
        due(doors, "felt", 1, 2, 4, 1);
        due(doors, "felt", 1, 2, 5, 0);
        due(doors, "felt", 1, 2, 6, 40);
        due(doors, "its neighbour", 1, 3, 0, 35);
        doors.step(1, 1);
        due(doors, "reopening", 1, 2, 0, 45);
        due(doors, "reopening", 1, 2, 1, 1);
        due(doors, "reopening", 1, 2, 6, 39);
        doors.step(1, 11);
        due(doors, "reopening", 1, 2, 0, 100);
        doors.step(1, 28);
        due(doors, "the last step of reopening", 1, 2, 0, 100);
        due(doors, "the last step of reopening", 1, 2, 1, 1);
        due(doors, "the last step of reopening", 1, 2, 6, 0);
        doors.step(1, 1);
        due(doors, "closing again", 1, 2, 0, 95);
        due(doors, "closing again", 1, 2, 1, 0);
        CHECK.due("its side", doors.told(1, 1), 0);
        CHECK.due("leaves told as locked", doors.told(1, 5), 7);
    }

    private static void feelsAtFortyAlone() {
        PlatformDoors doors = new PlatformDoors();
        doors.release(0, 0, true);
        doors.step(0, 5);
        doors.release(0, 0, false);
        doors.obstruct(0, 0, 2);
        doors.step(0, 1);
        due(doors, "50 to 45", 0, 0, 0, 45);
        doors.step(0, 1);
        due(doors, "45 to 40", 0, 0, 0, 40);
        due(doors, "run out", 0, 0, 7, 0);
        doors.step(0, 1);
        due(doors, "not obstructed any more", 0, 0, 0, 35);
        doors.obstruct(0, 0, 1);
        doors.step(0, 1);
        due(doors, "felt at 35", 0, 0, 0, 35);
        due(doors, "felt at 35", 0, 0, 4, 1);
        doors.begin();
        doors.obstruct(0, 0, 30);
        doors.step(0, 10);
        due(doors, "obstructed at 0", 0, 0, 4, 0);
        due(doors, "obstructed at 0", 0, 0, 2, 1);
        due(doors, "obstructed at 0", 0, 0, 7, 20);
    }

    private static void obstructionRunsOut() {
        PlatformDoors doors = new PlatformDoors();
        CHECK.due("obstruct", doors.obstruct(0, 5, 10), 0);
        doors.step(1, 4);
        CHECK.due("the other side's steps", doors.obstruct(0, 5, 10), 10);
        doors.step(0, 4);
        CHECK.due("its own", doors.obstruct(0, 5, 3), 6);
        doors.step(0, 3);
        CHECK.due("run out", doors.obstruct(0, 5, 0), 0);
        doors.step(0, 3);
        CHECK.due("never below 0", doors.obstruct(0, 5, 0), 0);
    }

    private static void staffIsCalled() {
        PlatformDoors doors = platformCloses();
        doors.obstruct(1, 7, 300);
        doors.step(1, 12);
        // Behind each that was felt: 40 steps of reopening, 12 steps from 100 to 40, and one to feel.
        for (int retry = 2; retry <= 3; retry++) {
            doors.step(1, 52);
            due(doors, "before retry " + retry, 1, 7, 4, retry - 1);
            doors.step(1, 1);
            due(doors, "retry " + retry, 1, 7, 4, retry);
            due(doors, "retry " + retry, 1, 7, 6, 40);
        }
        doors.step(1, 52);
        due(doors, "before staff", 1, 7, 5, 0);
        due(doors, "before staff", 1, 7, 0, 40);
        doors.step(1, 1);
        due(doors, "staff is called", 1, 7, 5, 1);
        due(doors, "staff is called", 1, 7, 4, 3);
        due(doors, "staff is called", 1, 7, 6, 0);
        due(doors, "staff is called", 1, 7, 0, 40);
        doors.step(1, 100);
        due(doors, "stays where it is", 1, 7, 0, 40);
        CHECK.due("obstruct no more", doors.obstruct(1, 7, 0), 300 - 12 - 53 * 3 - 100);
        doors.step(1, 7);
        due(doors, "closing", 1, 7, 0, 5);
        due(doors, "closing", 1, 7, 4, 3);
        due(doors, "closing", 1, 7, 5, 1);
        doors.step(1, 1);
        due(doors, "closed", 1, 7, 0, 0);
        due(doors, "closed", 1, 7, 4, 0);
        due(doors, "closed", 1, 7, 5, 0);
    }

    private static void reopeningThoughIsolated() {
        PlatformDoors doors = platformCloses();
        doors.obstruct(1, 4, 20);
        doors.step(1, 12);
        doors.isolate(1, 4, true);
        doors.step(1, 1);
        due(doors, "reopening though isolated", 1, 4, 1, 1);
        due(doors, "reopening though isolated", 1, 4, 0, 45);
    }

    private static void contacts() {
        PlatformDoors doors = new PlatformDoors();
        for (int side = 0; side < 2; side++) {
            for (int first = 0; first < 3; first++) {
                for (int second = 0; second < 3; second++) {
                    CHECK.due("contact 0 before", doors.contact(side, 2, 0, first), Math.max(0, first - (second == 0 ? 1 : 0)));
                    doors.contact(side, 2, 1, second);
                    due(doors, "contacts " + first + second, side, 2, 3, first == 2 || second == 2 ? 0 : 1);
                    due(doors, "contacts " + first + second, side, 2, 2, 1);
                    doors.release(side, 2, true);
                    due(doors, "released, " + first + second, side, 2, 3, first == 1 && second == 1 ? 1 : 0);
                    due(doors, "released, " + first + second, side, 2, 2, 0);
                    due(doors, "its neighbour", side, 1, 3, 1);
                    doors.release(side, 2, false);
                }
            }
            CHECK.due("contact 1 before", doors.contact(side, 2, 1, 1), 2);
            CHECK.due("contact 1 before", doors.contact(side, 2, 1, 0), 1);
        }
    }
}
