/** Promises 4, 5 and 6, and READY: where the train is, what it measures, what it is told to do. */
public final class TrainPlaceTest {
    private static final Check CHECK = new Check();

    public static void main(String[] args) {
        readyNeedsTwentyStepsAtRest();
        readyIsMeasured();
        arriveWithoutAStep();
        errorAndCommand();
        CHECK.end();
    }

    private static void readyNeedsTwentyStepsAtRest() {
        PlatformDoors doors = new PlatformDoors();
        doors.arrive(0, 0);
        doors.step(1, 30);
        CHECK.due("the platform's steps do not count", doors.told(0, 6), 0);
        doors.step(0, 19);
        CHECK.due("19 steps at rest", doors.told(0, 6), 0);
        doors.step(0, 1);
        CHECK.due("20 steps at rest", doors.told(0, 6), 1);
        doors.step(0, 100);
        CHECK.due("120 steps at rest", doors.told(0, 6), 1);
        doors.arrive(0, 1);
        doors.step(0, 1);
        CHECK.due("a step at speed 1", doors.told(0, 6), 0);
        doors.arrive(0, 0);
        doors.step(0, 19);
        CHECK.due("19 steps at rest again", doors.told(0, 6), 0);
        doors.step(0, 1);
        CHECK.due("20 steps at rest again", doors.told(0, 6), 1);
    }

    private static void readyIsMeasured() {
        PlatformDoors doors = new PlatformDoors();
        doors.arrive(0, 0);
        doors.step(0, 20);
        int[][] rows = {
            {250, 0, 1}, {251, 0, 0}, {-250, 0, 1}, {-251, 0, 0}, {350, -100, 1}, {351, -100, 0},
            {-350, 100, 1}, {-351, 100, 0}, {0, 251, 0}, {0, -251, 0}, {1250, -1000, 1},
            {2000000, -1000, 0}, {-2000000, 1000, 0}};
        for (int[] row : rows) {
            CHECK.due("arrive", doors.arrive(row[0], 0), 0);
            doors.error(row[1]);
            CHECK.due("READY at " + row[0] + " with error " + row[1], doors.told(0, 6), row[2]);
        }
    }

    /** The speed is seen in steps alone. */
    private static void arriveWithoutAStep() {
        PlatformDoors doors = new PlatformDoors();
        doors.arrive(0, 0);
        doors.step(0, 20);
        doors.arrive(0, 500);
        CHECK.due("READY before the next step", doors.told(0, 6), 1);
        doors.arrive(100, 0);
        doors.step(0, 1);
        CHECK.due("READY, as no step saw the speed", doors.told(0, 6), 1);
        doors.arrive(100, 30000);
        doors.step(0, 1);
        CHECK.due("READY, as a step saw it", doors.told(0, 6), 0);
    }

    private static void errorAndCommand() {
        PlatformDoors doors = new PlatformDoors();
        CHECK.due("error(70)", doors.error(70), 0);
        CHECK.due("error(-1000)", doors.error(-1000), 70);
        CHECK.due("error(0)", doors.error(0), -1000);
        CHECK.due("command at first", doors.command(false), false);
        CHECK.due("command before", doors.command(true), false);
        CHECK.due("command to open before", doors.command(true), true);
        doors.step(0, 5);
        doors.command(false);
        doors.step(0, 5);
        CHECK.due("a frame's command", doors.frame(1, 0, 5), 1);
        CHECK.due("the next one's", doors.frame(1, 1, 5), 0);
    }
}
