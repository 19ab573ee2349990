/** Promise 18: how often the platform became OPEN though the train was not seen at the mark. */
public final class BreachTest {
    private static final Check CHECK = new Check();

    public static void main(String[] args) {
        CHECK.due("at the mark", breaches(0, 0, 5), 0);
        CHECK.due("350 beyond", breaches(350, -100, 5), 0);
        CHECK.due("350 before", breaches(-350, 100, 5), 0);
        CHECK.due("351 beyond", breaches(351, -101, 5), 1);
        CHECK.due("351 before", breaches(-351, 101, 5), 1);
        CHECK.due("far beyond", breaches(1000, -1000, 5), 1);
        lastStepAtTheMark();
        countsEachOpening();
        speedMatters();
        CHECK.end();
    }

    /** The train does all its steps there; the platform becomes OPEN in its next one. */
    private static int breaches(int place, int error, int platformSteps) {
        PlatformDoors doors = new PlatformDoors();
        doors.arrive(place, 0);
        doors.error(error);
        doors.command(true);
        doors.step(1, platformSteps);
        doors.deliver(0, 0);
        doors.step(0, 20);
        doors.deliver(1, 3);
        doors.step(1, 1);
        CHECK.due("OPEN at " + place, doors.told(1, 1), 1);
        return doors.breaches();
    }

    /** A step at the mark counts if the platform then had at least 25 steps less than in opening. */
    private static void lastStepAtTheMark() {
        for (int later = 20; later <= 30; later++) {
            PlatformDoors doors = new PlatformDoors();
            doors.arrive(0, 0);
            doors.command(true);
            doors.step(0, 24);
            doors.step(1, 40);
            doors.step(0, 1);
            doors.arrive(800, 0);
            doors.error(-800);
            doors.step(1, later - 1);
            doors.deliver(0, doors.told(0, 4) - 1);
            doors.step(0, 5);
            doors.deliver(1, doors.told(1, 4) - 1);
            doors.step(1, 1);
            CHECK.due("OPEN", doors.told(1, 1), 1);
            CHECK.due("at the mark " + later + " steps before", doors.breaches(), later > 25 ? 1 : 0);
        }
    }

    private static void countsEachOpening() {
        PlatformDoors doors = new PlatformDoors();
        doors.arrive(-1000, 0);
        doors.error(1000);
        doors.command(true);
        Check.exchange(doors, 10);
        CHECK.due("first", doors.breaches(), 1);
        Check.exchange(doors, 10);
        CHECK.due("staying OPEN", doors.breaches(), 1);
        doors.command(false);
        Check.exchange(doors, 31);
        CHECK.due("closing", doors.breaches(), 1);
        doors.command(true);
        Check.exchange(doors, 2);
        CHECK.due("second", doors.told(1, 7), 2);
        CHECK.due("second", doors.breaches(), 2);
        doors.begin();
        CHECK.due("begin", doors.breaches(), 0);
        doors.step(1, 500);
        CHECK.due("no opening since begin", doors.breaches(), 0);
    }

    /** All its steps near the platform's opening, but for those of the frame, are made moving. */
    private static void speedMatters() {
        PlatformDoors doors = new PlatformDoors();
        doors.arrive(900, 0);
        doors.error(-900);
        doors.command(true);
        doors.step(1, 5);
        doors.deliver(0, 0);
        doors.step(0, 20);
        doors.arrive(0, 1);
        doors.step(0, 1);
        doors.deliver(1, 3);
        doors.step(1, 1);
        CHECK.due("OPEN", doors.told(1, 1), 1);
        CHECK.due("at the mark, but moving", doors.breaches(), 1);
        doors.begin();
        doors.arrive(900, 0);
        doors.error(-900);
        doors.command(true);
        doors.step(1, 5);
        doors.deliver(0, 0);
        doors.step(0, 20);
        doors.arrive(0, 0);
        doors.step(0, 1);
        doors.arrive(900, 5);
        doors.step(0, 1);
        doors.deliver(1, 3);
        doors.step(1, 1);
        CHECK.due("a single step at the mark", doors.breaches(), 0);
    }
}
