/** Stops that many tests begin with; each answers a new object, some sixty calls old at most. */
final class Scenes {
    private Scenes() { }

    static int last(PlatformDoors doors, int side) {
        return doors.told(side, 4) - 1;
    }

    /** The newest frame under way to a side is delivered. */
    static int deliverLast(PlatformDoors doors, int side) {
        return doors.deliver(side, last(doors, side));
    }

    /**
     * The train at rest at the mark, after 20 steps, with the command to open; the platform after 25.
     * The last frame under way to the platform tells of both, and echoes the platform's step 25.
     */
    static PlatformDoors platformMayOpen() {
        PlatformDoors doors = new PlatformDoors();
        doors.arrive(0, 0);
        doors.command(true);
        doors.step(1, 25);
        deliverLast(doors, 0);
        doors.step(0, 20);
        return doors;
    }

    /** The platform has become OPEN in its 26th step, at the age of 1. */
    static PlatformDoors platformOpen() {
        PlatformDoors doors = platformMayOpen();
        deliverLast(doors, 1);
        doors.step(1, 1);
        return doors;
    }

    /**
     * The train, CLOSED after 20 steps; the last frame under way to it tells that the platform is
     * OPEN, and echoes the train's step 20.
     */
    static PlatformDoors trainMayOpen() {
        PlatformDoors doors = platformOpen();
        doors.step(1, 4);
        return doors;
    }

    /** The train has become OPEN in its 21st step, at the age of 1. */
    static PlatformDoors trainOpen() {
        PlatformDoors doors = trainMayOpen();
        deliverLast(doors, 0);
        doors.step(0, 1);
        return doors;
    }

    /** A side OPEN since one step, its age being 1. */
    static PlatformDoors open(int side) {
        return side == 0 ? trainOpen() : platformOpen();
    }

    /** A side in WARNING since 75 steps behind that, by staleness; all its leaves are at 100. */
    static PlatformDoors warning(int side) {
        PlatformDoors doors = open(side);
        doors.step(side, 75);
        return doors;
    }

    /** Leaf 0 of a side, wholly closed or opened by hand to a multiple of 10, and left to itself. */
    static PlatformDoors leafAt(int side, int position) {
        PlatformDoors doors = new PlatformDoors();
        if (position > 0) {
            doors.release(side, 0, true);
            doors.step(side, position / 10);
            doors.release(side, 0, false);
        }
        return doors;
    }

    /**
     * Something in every part: both sides OPEN, the train 120 beyond the mark with the error 30,
     * leaves isolated, released, obstructed and with wrong contacts; 12 frames are under way to the
     * platform and 3 to the train.
     */
    static PlatformDoors busy() {
        PlatformDoors doors = new PlatformDoors();
        doors.arrive(120, 0);
        doors.error(30);
        doors.command(true);
        Check.exchange(doors, 8);
        for (int side = 0; side < 2; side++) {
            doors.isolate(side, side == 0 ? 1 : 6, true);
            doors.release(side, 2, true);
            doors.obstruct(side, 3, 700 + 100 * side);
            doors.contact(side, 4, side, 1);
            doors.contact(side, 4, 1 - side, 2);
        }
        doors.step(0, 60);
        doors.step(1, 15);
        return doors;
    }
}
