/** THE THEOREM at its boundaries: 350 mm, speed 0, "25 steps less than now". */
public final class BreachEdgeTest {
    private static final Check CHECK = new Check();

    public static void main(String[] args) {
        placeAtMost350();
        errorAtMost100();
        speedZeroAlone();
        stepsSince25Less();
        fewerThan25Steps();
        oneStepIsEnough();
        placeWithoutAStep();
        onlyBecomingOpen();
        onlyThePlatform();
        everyOpening();
        CHECK.end();
    }

    /** The train makes all its steps there; the platform becomes OPEN in its next step. */
    private static int breachesAt(int place, int error) {
        PlatformDoors doors = new PlatformDoors();
        doors.arrive(place, 0);
        doors.error(error);
        doors.command(true);
        doors.step(1, 25);
        Scenes.deliverLast(doors, 0);
        doors.step(0, 20);
        Scenes.deliverLast(doors, 1);
        CHECK.due("breaches before the step", doors.breaches(), 0);
        doors.step(1, 1);
        CHECK.due("OPEN for a train at " + place, doors.told(1, 1), 1);
        return doors.breaches();
    }

    /** "within 350 mm of the mark", on both sides of it. */
    private static void placeAtMost350() {
        int[][] rows = {{0, 0, 0}, {349, -200, 0}, {350, -200, 0}, {351, -200, 1}, {352, -200, 1},
            {-349, 200, 0}, {-350, 200, 0}, {-351, 200, 1}, {-352, 200, 1}, {1250, -1000, 1}, {-1250, 1000, 1}};
        for (int[] row : rows) {
            CHECK.due("breaches at " + row[0], breachesAt(row[0], row[1]), row[2]);
        }
    }

    /** "(0, as long as the error is - 100 .. 100.)": READY at the farthest place that measures so. */
    private static void errorAtMost100() {
        CHECK.due("breaches with error -100", breachesAt(350, -100), 0);
        CHECK.due("breaches with error -101", breachesAt(351, -101), 1);
        CHECK.due("breaches with error 100", breachesAt(-350, 100), 0);
        CHECK.due("breaches with error 101", breachesAt(-351, 101), 1);
    }

    /**
     * The train is READY 900 beyond the mark; then it makes one step elsewhere, and then the frame
     * that tells that it was READY is taken.
     */
    private static PlatformDoors oneStepElsewhere(int place, int speed) {
        PlatformDoors doors = new PlatformDoors();
        doors.arrive(900, 0);
        doors.error(-900);
        doors.command(true);
        doors.step(1, 25);
        Scenes.deliverLast(doors, 0);
        doors.step(0, 20);
        doors.arrive(place, speed);
        doors.step(0, 1);
        return doors;
    }

    private static int breachesBehind(PlatformDoors doors) {
        CHECK.due("taken", doors.deliver(1, 3), 1);
        doors.step(1, 1);
        CHECK.due("OPEN", doors.told(1, 1), 1);
        return doors.breaches();
    }

    /** "with speed 0". */
    private static void speedZeroAlone() {
        CHECK.due("breaches, a step at the mark", breachesBehind(oneStepElsewhere(0, 0)), 0);
        CHECK.due("breaches, a step at the mark with speed 1", breachesBehind(oneStepElsewhere(0, 1)), 1);
        CHECK.due("breaches, a step at the mark with speed 30000", breachesBehind(oneStepElsewhere(0, 30000)), 1);
    }

    private static void oneStepIsEnough() {
        CHECK.due("breaches, a step at 350", breachesBehind(oneStepElsewhere(350, 0)), 0);
        CHECK.due("breaches, a step at 351", breachesBehind(oneStepElsewhere(351, 0)), 1);
        CHECK.due("breaches, a step at -350", breachesBehind(oneStepElsewhere(-350, 0)), 0);
        CHECK.due("breaches, a step at -351", breachesBehind(oneStepElsewhere(-351, 0)), 1);
        PlatformDoors doors = oneStepElsewhere(0, 0);
        doors.arrive(5000, 9);
        doors.step(0, 4);
        CHECK.due("breaches, gone since", breachesBehind(doors), 0);
    }

    /** Only steps count: to be at the mark between two steps is nothing. */
    private static void placeWithoutAStep() {
        PlatformDoors doors = oneStepElsewhere(900, 0);
        doors.arrive(0, 0);
        CHECK.due("breaches, at the mark without a step", breachesBehind(doors), 1);
        doors = oneStepElsewhere(0, 0);
        doors.arrive(900, 0);
        CHECK.due("breaches, gone without a step", breachesBehind(doors), 0);
    }

    /**
     * The train's last step at the mark is made when the platform has so many steps less than in the
     * step in which it becomes OPEN; the frames that open come by steps farther off.
     */
    private static int breachesWithTheMark(int before, int start) {
        PlatformDoors doors = new PlatformDoors();
        doors.arrive(0, 0);
        doors.command(true);
        doors.step(0, 19);
        doors.step(1, start);
        doors.step(0, 1);
        doors.arrive(800, 0);
        doors.error(-800);
        doors.step(1, before - 1);
        while (doors.told(0, 4) > 0) {
            Scenes.deliverLast(doors, 0);
        }
        doors.step(0, 5);
        Scenes.deliverLast(doors, 1);
        doors.step(1, 1);
        CHECK.due("OPEN, " + before + " steps behind " + start, doors.told(1, 1), 1);
        CHECK.due("steps of the platform", doors.told(1, 0), start + before);
        return doors.breaches();
    }

    /** "in all steps that it had done since the platform had 25 steps less than now". */
    private static void stepsSince25Less() {
        for (int before : new int[] {10, 24, 25, 26, 27, 55}) {
            CHECK.due("breaches, at the mark " + before + " steps before", breachesWithTheMark(before, 5), before <= 25 ? 0 : 1);
            CHECK.due("breaches, at the mark " + before + " steps before", breachesWithTheMark(before, 30), before <= 25 ? 0 : 1);
        }
    }

    /** A platform that has not had 25 steps: all the train's steps count, however many. */
    private static void fewerThan25Steps() {
        for (int steps : new int[] {6, 24, 25, 26}) {
            PlatformDoors doors = new PlatformDoors();
            doors.arrive(0, 0);
            doors.command(true);
            doors.step(0, 1);
            doors.arrive(900, 0);
            doors.error(-900);
            doors.step(0, 54);
            doors.step(1, steps - 1);
            Scenes.deliverLast(doors, 0);
            doors.step(0, 5);
            Scenes.deliverLast(doors, 1);
            doors.step(1, 1);
            CHECK.due("OPEN in step " + steps, doors.told(1, 1), 1);
            CHECK.due("breaches, at the mark when the platform had no step, in step " + steps, doors.breaches(), steps <= 25 ? 0 : 1);
        }
    }

    private static PlatformDoors breached() {
        PlatformDoors doors = oneStepElsewhere(900, 0);
        CHECK.due("breaches", breachesBehind(doors), 1);
        return doors;
    }

    /** "became OPEN": to be so, to warn and to close are no breaches. */
    private static void onlyBecomingOpen() {
        PlatformDoors doors = breached();
        doors.step(1, 74);
        CHECK.due("OPEN still", doors.told(1, 1), 1);
        CHECK.due("breaches while OPEN", doors.breaches(), 1);
        doors.step(1, 150);
        CHECK.due("WARNING still", doors.told(1, 1), 2);
        CHECK.due("breaches in WARNING", doors.breaches(), 1);
        doors.step(1, 1);
        CHECK.due("CLOSED", doors.told(1, 1), 0);
        CHECK.due("breaches when CLOSED", doors.breaches(), 1);
        doors.step(1, 500);
        CHECK.due("breaches long since", doors.breaches(), 1);
    }

    /** "the platform became OPEN": the train's own doors are no breach, where none is there yet. */
    private static void onlyThePlatform() {
        PlatformDoors doors = Scenes.trainMayOpen();
        doors.arrive(900, 0);
        doors.error(-900);
        Scenes.deliverLast(doors, 0);
        doors.step(0, 1);
        CHECK.due("the train is OPEN far from the mark", doors.told(0, 1), 1);
        CHECK.due("breaches of the train", doors.breaches(), 0);
        doors = breached();
        doors.step(1, 4);
        Scenes.deliverLast(doors, 0);
        doors.step(0, 1);
        CHECK.due("the train is OPEN behind the platform", doors.told(0, 1), 1);
        CHECK.due("breaches of both", doors.breaches(), 1);
    }

    private static void everyOpening() {
        PlatformDoors doors = new PlatformDoors();
        doors.arrive(-1000, 0);
        doors.error(1000);
        doors.command(true);
        for (int opening = 1; opening <= 2; opening++) {
            Check.exchange(doors, 8);
            CHECK.due("openings", doors.told(1, 7), opening);
            CHECK.due("breaches", doors.breaches(), opening);
            doors.command(false);
            Check.exchange(doors, 32);
            doors.command(true);
        }
        doors.arrive(-350, 0);
        doors.error(100);
        Check.exchange(doors, 8);
        CHECK.due("openings at last", doors.told(1, 7), 3);
        CHECK.due("breaches at last", doors.breaches(), 2);
        doors.begin();
        CHECK.due("breaches at first", doors.breaches(), 0);
    }
}
