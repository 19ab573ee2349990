import java.util.function.Supplier;

/** Promise 2, "All as at first", from the midst of whatever may be going on. */
public final class BeginEdgeTest {
    private static final Check CHECK = new Check();

    public static void main(String[] args) {
        begun("a new object", PlatformDoors::new);
        begun("something in every part", Scenes::busy);
        for (int side = 0; side < 2; side++) {
            int at = side;
            begun("OPEN", () -> Scenes.open(at));
            begun("WARNING", () -> Scenes.warning(at));
            begun("reopening", () -> felt(at, 1));
            begun("staff called", () -> felt(at, 4));
            begun("a full line", () -> fullLine(at));
        }
        begun("READY in the next step", () -> atRest(19));
        begun("READY", () -> atRest(20));
        begun("a train far off", BeginEdgeTest::farOff);
        warningIsForgotten();
        openingIsForgotten();
        standingIsForgotten();
        takenIsForgotten();
        CHECK.end();
    }

    private static void begun(String what, Supplier<PlatformDoors> scene) {
        PlatformDoors doors = scene.get();
        doors.begin();
        Picture.alike(CHECK, "begin left of " + what, doors, new PlatformDoors());
        PlatformDoors opened = scene.get();
        opened.begin();
        PlatformDoors other = new PlatformDoors();
        open(opened);
        open(other);
        Picture.alike(CHECK, "begin left of " + what + ", seen in the next stop", opened, other);
    }

    private static void open(PlatformDoors doors) {
        doors.arrive(120, 0);
        doors.command(true);
        Check.exchange(doors, 6);
    }

    private static PlatformDoors felt(int side, int times) {
        PlatformDoors doors = Scenes.leafAt(side, 40);
        doors.obstruct(side, 0, 1000);
        doors.step(side, 1 + 53 * (times - 1));
        CHECK.due("retries", doors.leaf(side, 0, 4), Math.min(3, times));
        CHECK.due("staff", doors.leaf(side, 0, 5), times == 4 ? 1 : 0);
        return doors;
    }

    private static PlatformDoors fullLine(int side) {
        PlatformDoors doors = new PlatformDoors();
        doors.step(1 - side, 60);
        return doors;
    }

    private static PlatformDoors atRest(int steps) {
        PlatformDoors doors = new PlatformDoors();
        doors.arrive(0, 0);
        doors.step(0, steps);
        return doors;
    }

    private static PlatformDoors farOff() {
        PlatformDoors doors = new PlatformDoors();
        doors.arrive(-2000000, 30000);
        doors.error(-1000);
        return doors;
    }

    /** A WARNING of later begins with its own 150 steps. */
    private static void warningIsForgotten() {
        PlatformDoors doors = Scenes.warning(1);
        doors.step(1, 149);
        doors.begin();
        doors.step(1, 1);
        CHECK.due("state", doors.told(1, 1), 0);
        CHECK.due("openings", doors.told(1, 7), 0);
    }

    /** The step of an opening before begin is no opening in the same step behind it. */
    private static void openingIsForgotten() {
        PlatformDoors doors = Scenes.platformOpen();
        doors.begin();
        doors.step(1, 26);
        CHECK.due("openings", doors.told(1, 7), 0);
        CHECK.due("breaches", doors.breaches(), 0);
    }

    /** A train that stood at the mark before begin has not stood there since. */
    private static void standingIsForgotten() {
        PlatformDoors doors = atRest(20);
        doors.begin();
        doors.arrive(900, 0);
        doors.error(-900);
        doors.command(true);
        doors.step(1, 5);
        doors.deliver(0, 0);
        doors.step(0, 20);
        Scenes.deliverLast(doors, 1);
        doors.step(1, 1);
        CHECK.due("OPEN", doors.told(1, 1), 1);
        CHECK.due("breaches", doors.breaches(), 1);
    }

    /** Number 1 is TAKEN again, and its echo is 0 again. */
    private static void takenIsForgotten() {
        PlatformDoors doors = Scenes.trainOpen();
        doors.begin();
        for (int side = 0; side < 2; side++) {
            doors.step(1 - side, 5);
            CHECK.due("number", doors.frame(side, 0, 0), 1);
            CHECK.due("echo", doors.frame(side, 0, 1), side == 0 ? 0 : 1);
            CHECK.due("deliver", doors.deliver(side, 0), 1);
            CHECK.due("newest", doors.told(side, 3), 1);
            CHECK.due("age", doors.told(side, 2), side == 0 ? PlatformDoors.NONE : 0);
        }
    }
}
