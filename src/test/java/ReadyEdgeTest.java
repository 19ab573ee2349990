/** READY at its boundaries: "in its last 20 steps (at least)", and "- 250 .. 250". */
public final class ReadyEdgeTest {
    private static final Check CHECK = new Check();

    public static void main(String[] args) {
        speedAtFirst();
        nineteenAndTwentySteps();
        oneMovingStepAmongTwenty();
        slowestMove();
        speedIsSeenInStepsAlone();
        measuredByPlace();
        measuredByError();
        measuredByBoth();
        bothAreNeeded();
        inTheFrameOfTheTwentiethStep();
        opensInTheTwentiethStep();
        opensAtTheLastMillimetre();
        warnsAtTheFirstMillimetreBeyond();
        CHECK.end();
    }

    private static void due(PlatformDoors doors, String when, int want) {
        CHECK.due("READY " + when, doors.told(0, 6), want);
    }

    private static PlatformDoors atRest(int steps) {
        PlatformDoors doors = new PlatformDoors();
        doors.arrive(0, 0);
        doors.step(0, steps);
        return doors;
    }

    /** Promise 1: "The train 0 mm beyond the mark, speed 1, error 0". */
    private static void speedAtFirst() {
        PlatformDoors doors = new PlatformDoors();
        due(doors, "at first", 0);
        doors.step(0, 500);
        due(doors, "with the speed at first", 0);
    }

    private static void nineteenAndTwentySteps() {
        due(atRest(1), "behind 1 step", 0);
        due(atRest(19), "behind 19 steps", 0);
        due(atRest(20), "behind 20 steps", 1);
        due(atRest(21), "behind 21 steps", 1);
        due(atRest(500), "behind 500 steps", 1);
        PlatformDoors doors = new PlatformDoors();
        doors.step(0, 100);
        doors.arrive(0, 0);
        doors.step(0, 19);
        due(doors, "19 steps behind the last moving one", 0);
        doors.step(0, 1);
        due(doors, "20 steps behind the last moving one", 1);
        doors = new PlatformDoors();
        doors.arrive(0, 0);
        doors.step(0, 19);
        doors.step(1, 500);
        due(doors, "by the platform's steps", 0);
    }

    private static void oneMovingStepAmongTwenty() {
        PlatformDoors doors = atRest(40);
        doors.arrive(0, 1);
        doors.step(0, 1);
        doors.arrive(0, 0);
        for (int behind = 0; behind < 20; behind++) {
            due(doors, "behind a moving step, " + behind, 0);
            doors.step(0, 1);
        }
        due(doors, "with the moving step as the 21st before", 1);
    }

    private static void slowestMove() {
        for (int speed : new int[] {0, 1, 30000}) {
            PlatformDoors doors = atRest(20);
            doors.arrive(0, speed);
            doors.step(0, 1);
            due(doors, "behind a step with speed " + speed, speed == 0 ? 1 : 0);
        }
    }

    private static void speedIsSeenInStepsAlone() {
        PlatformDoors doors = atRest(19);
        doors.arrive(0, 5);
        doors.arrive(0, 0);
        doors.step(0, 1);
        due(doors, "though it moved between two steps", 1);
    }

    private static void measured(int place, int error, int want) {
        PlatformDoors doors = new PlatformDoors();
        doors.arrive(place, 0);
        doors.error(error);
        doors.step(0, 20);
        due(doors, "at " + place + " with error " + error, want);
        doors = atRest(20);
        doors.arrive(place, 0);
        doors.error(error);
        due(doors, "now, at " + place + " with error " + error, want);
    }

    private static void measuredByPlace() {
        measured(249, 0, 1);
        measured(250, 0, 1);
        measured(251, 0, 0);
        measured(-249, 0, 1);
        measured(-250, 0, 1);
        measured(-251, 0, 0);
    }

    private static void measuredByError() {
        measured(0, 250, 1);
        measured(0, 251, 0);
        measured(0, -250, 1);
        measured(0, -251, 0);
        measured(0, 1000, 0);
        measured(0, -1000, 0);
    }

    private static void measuredByBoth() {
        measured(1250, -1000, 1);
        measured(1251, -1000, 0);
        measured(750, -1000, 1);
        measured(749, -1000, 0);
        measured(-1250, 1000, 1);
        measured(-1251, 1000, 0);
        measured(-750, 1000, 1);
        measured(-749, 1000, 0);
        measured(2000000, -1000, 0);
        measured(-2000000, 1000, 0);
    }

    private static void bothAreNeeded() {
        PlatformDoors doors = atRest(19);
        doors.arrive(251, 0);
        doors.step(0, 1);
        due(doors, "too far, behind 20 steps", 0);
        doors.arrive(250, 0);
        due(doors, "near enough, behind 20 steps", 1);
    }

    private static void inTheFrameOfTheTwentiethStep() {
        PlatformDoors doors = atRest(25);
        int[] want = {0, 0, 0, 1, 1};
        for (int k = 0; k < want.length; k++) {
            CHECK.due("READY in the frame of step " + 5 * (k + 1), doors.frame(1, k, 4), want[k]);
        }
        doors = new PlatformDoors();
        doors.step(0, 1);
        doors.arrive(0, 0);
        doors.step(0, 24);
        CHECK.due("READY in the frame of the 19th step at rest", doors.frame(1, 3, 4), 0);
        CHECK.due("READY in the frame of the 24th step at rest", doors.frame(1, 4, 4), 1);
    }

    /** The speed is seen before the state, so the 20th step itself may open. */
    private static void opensInTheTwentiethStep() {
        PlatformDoors doors = Scenes.trainMayOpen();
        doors.arrive(0, 1);
        doors.step(0, 1);
        doors.arrive(0, 0);
        Scenes.deliverLast(doors, 0);
        doors.step(0, 19);
        CHECK.due("state in the 19th step at rest", doors.told(0, 1), 0);
        CHECK.due("age in the 19th step at rest", doors.told(0, 2), 20);
        doors.step(0, 1);
        CHECK.due("state in the 20th step at rest", doors.told(0, 1), 1);
    }

    private static void opensAtTheLastMillimetre() {
        for (int place : new int[] {250, 251, -250, -251}) {
            PlatformDoors doors = Scenes.trainMayOpen();
            Scenes.deliverLast(doors, 0);
            doors.arrive(place, 0);
            doors.step(0, 1);
            CHECK.due("state of a train at " + place, doors.told(0, 1), Math.abs(place) == 250 ? 1 : 0);
        }
    }

    private static void warnsAtTheFirstMillimetreBeyond() {
        for (int place : new int[] {250, 251, -250, -251}) {
            PlatformDoors doors = Scenes.trainOpen();
            doors.arrive(place, 0);
            CHECK.due("state before the step", doors.told(0, 1), 1);
            doors.step(0, 1);
            CHECK.due("state of an open train at " + place, doors.told(0, 1), Math.abs(place) == 250 ? 1 : 2);
        }
    }
}
