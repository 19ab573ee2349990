/** Promises 1 and 2: how all is at first, and that begin puts it so again. */
public final class NewAndBeginTest {
    private static final Check CHECK = new Check();

    public static void main(String[] args) {
        asAtFirst("new", new PlatformDoors());
        PlatformDoors used = used();
        used.begin();
        asAtFirst("begun", used);
        restarted("begun", used);
        restarted("new", new PlatformDoors());
        CHECK.end();
    }

    /** An object with something in every part of its state. */
    private static PlatformDoors used() {
        PlatformDoors doors = Check.opened();
        for (int side = 0; side < 2; side++) {
            doors.isolate(side, 1, true);
            doors.release(side, 2, true);
            doors.contact(side, 4, 0, 1);
            doors.contact(side, 4, 1, 2);
        }
        doors.command(false);
        Check.exchange(doors, 1);
        doors.step(0, 160);
        doors.step(1, 160);
        doors.obstruct(0, 3, 900);
        doors.obstruct(1, 3, 900);
        doors.step(0, 230);
        doors.step(1, 230);
        doors.command(true);
        doors.error(300);
        CHECK.due("a retry to be forgotten", doors.leaf(1, 3, 4) > 0, true);
        breach(doors);
        CHECK.due("a breach to be forgotten", doors.breaches(), 1);
        return doors;
    }

    /** The train measures to be at the mark, but is a metre beyond it. */
    private static void breach(PlatformDoors doors) {
        doors.arrive(1000, 0);
        doors.error(-1000);
        while (doors.drop(0, 0) != PlatformDoors.BAD || doors.drop(1, 0) != PlatformDoors.BAD) { }
        doors.step(0, 25);
        doors.step(1, 26);
        Check.exchange(doors, 3);
        doors.deliver(0, doors.told(0, 4) - 1);
        doors.step(0, 5);
        doors.deliver(1, doors.told(1, 4) - 1);
        doors.step(1, 1);
    }

    private static void asAtFirst(String who, PlatformDoors doors) {
        for (int side = 0; side < 2; side++) {
            int[] told = {0, 0, PlatformDoors.NONE, 0, 0, 8, side, 0};
            for (int which = 0; which < told.length; which++) {
                CHECK.due(who + " told(" + side + ", " + which + ")", doors.told(side, which), told[which]);
            }
            for (int leaf = 0; leaf < 8; leaf++) {
                for (int which = 0; which < 8; which++) {
                    int due = which == 2 || which == 3 ? 1 : 0;
                    CHECK.due(who + " leaf(" + side + ", " + leaf + ", " + which + ")",
                        doors.leaf(side, leaf, which), due);
                }
            }
            CHECK.due(who + " frame under way to " + side, doors.frame(side, 0, 0), PlatformDoors.BAD);
        }
        CHECK.due(who + " mayGo", doors.mayGo(), false);
        CHECK.due(who + " breaches", doors.breaches(), 0);
    }

    private static void restarted(String who, PlatformDoors doors) {
        CHECK.due(who + " error", doors.error(0), 0);
        CHECK.due(who + " command", doors.command(false), false);
        for (int side = 0; side < 2; side++) {
            for (int leaf = 0; leaf < 8; leaf++) {
                CHECK.due(who + " isolate", doors.isolate(side, leaf, false), 0);
                CHECK.due(who + " release", doors.release(side, leaf, false), 0);
                CHECK.due(who + " obstruct", doors.obstruct(side, leaf, 0), 0);
                CHECK.due(who + " contact 0", doors.contact(side, leaf, 0, 0), 0);
                CHECK.due(who + " contact 1", doors.contact(side, leaf, 1, 0), 0);
            }
        }
        doors.step(0, 50);
        CHECK.due(who + " READY, though its speed is 1", doors.told(0, 6), 0);
        CHECK.due(who + " first frame's number", doors.frame(1, 0, 0), 1);
        doors.begin();
        doors.arrive(0, 0);
        doors.step(0, 19);
        CHECK.due(who + " READY after 19 steps", doors.told(0, 6), 0);
        doors.step(0, 1);
        CHECK.due(who + " READY after 20 steps at place 0", doors.told(0, 6), 1);
    }
}
