import java.util.Random;

/**
 * Random runs, the same for every run of the test: class and model must agree. Questions are calls
 * too, and an object is used for at most 512, so most calls act, and all is asked at a run's end.
 */
public final class ModelTest {
    private static final int RUNS = 12000, CALLS = 512;
    /** What all questions at the end may need, and the longest act before them. */
    private static final int CALLS_FOR_THE_END = 16 + 128 + 2 * 12 * 6 + 2, CALLS_OF_AN_ACT = 8;
    private static final Check CHECK = new Check();
    private static int breachesSeen = 0, openingsSeen = 0, staffSeen = 0, goSeen = 0;

    private final Random random;
    private final boolean smallErrors;
    private final PlatformDoors used = new PlatformDoors();
    private Model model = new Model();
    private int calls = 0;

    private ModelTest(long seed) {
        random = new Random(seed);
        smallErrors = seed % 2 == 0;
    }

    public static void main(String[] args) {
        for (int run = 0; run < RUNS; run++) {
            new ModelTest(run).play(run);
        }
        System.out.println(openingsSeen + " openings, " + breachesSeen + " breaches, " + staffSeen
            + " calls of staff and " + goSeen + " trains that may go");
        CHECK.due("runs get far enough",
            openingsSeen > 0 && breachesSeen > 0 && staffSeen > 0 && goSeen > 0, true);
        CHECK.end();
    }

    /** The object for one more call. */
    private PlatformDoors doors() {
        calls++;
        return used;
    }

    private void play(int run) {
        stop();
        while (calls <= CALLS - CALLS_FOR_THE_END - CALLS_OF_AN_ACT) {
            String when = "run " + run + ", call " + calls;
            if (random.nextInt(400) == 0) {
                doors().begin();
                model = new Model();
                stop();
            }
            act(when);
            if (random.nextInt(4) == 0) {
                askSome(when);
            }
        }
        askAll("end of run " + run);
        CHECK.due("run " + run + " kept to the calls of an object", calls <= CALLS, true);
        if (smallErrors) {
            CHECK.due("run " + run + ": the theorem", model.breaches(), 0);
        }
        breachesSeen += model.breaches();
        openingsSeen += model.told(1, 7);
    }

    /** Most runs begin as a stop does, so that doors open at all. */
    private void stop() {
        if (random.nextInt(8) != 0) {
            int place = random.nextInt(200) - 100;
            doors().arrive(place, 0);
            model.arrive(place, 0);
            doors().command(true);
            model.command(true);
        }
    }

    private int side() {
        return random.nextInt(60) == 0 ? random.nextInt(5) - 2 : random.nextInt(2);
    }

    private int leaf() {
        return random.nextInt(60) == 0 ? random.nextInt(12) - 2 : random.nextInt(8);
    }

    private int k(int side) {
        int many = Math.max(0, model.told(side, 4));
        return random.nextInt(3) == 0 ? random.nextInt(many + 2) - 1 : many - 1;
    }

    private int many() {
        int kind = random.nextInt(40);
        return kind == 0 ? random.nextInt(502) : kind < 4 ? random.nextInt(60) : 1 + random.nextInt(6);
    }

    private int newError() {
        int most = smallErrors ? 100 : 1002;
        return random.nextInt(2 * most + 1) - most;
    }

    private void act(String when) {
        int side = side(), leaf = leaf(), kind = random.nextInt(100);
        boolean is = random.nextInt(3) == 0;
        if (kind < 50) {
            int many = many();
            CHECK.due(when + " step", doors().step(side, many), model.step(side, many));
        } else if (kind < 80) {
            int k = k(side);
            CHECK.due(when + " deliver", doors().deliver(side, k), model.deliver(side, k));
        } else if (kind < 82) {
            int k = k(side);
            CHECK.due(when + " drop", doors().drop(side, k), model.drop(side, k));
        } else if (kind < 85) {
            int k = k(side);
            CHECK.due(when + " twin", doors().twin(side, k), model.twin(side, k));
        } else if (kind < 87) {
            boolean open = random.nextInt(3) != 0;
            CHECK.due(when + " command", doors().command(open) ? 1 : 0, model.command(open));
        } else if (kind < 89) {
            CHECK.due(when + " isolate", doors().isolate(side, leaf, is), model.isolate(side, leaf, is));
        } else if (kind < 91) {
            CHECK.due(when + " release", doors().release(side, leaf, is), model.release(side, leaf, is));
        } else if (kind < 94) {
            int steps = random.nextInt(1010) - 4;
            CHECK.due(when + " obstruct", doors().obstruct(side, leaf, steps), model.obstruct(side, leaf, steps));
        } else if (kind < 96) {
            int which = random.nextInt(3), how = random.nextInt(20) == 0 ? random.nextInt(5) - 1 : random.nextInt(3);
            CHECK.due(when + " contact", doors().contact(side, leaf, which, how), model.contact(side, leaf, which, how));
        } else {
            moveTrain(when);
        }
    }

    private void moveTrain(String when) {
        int kind = random.nextInt(10);
        if (kind < 2 || !smallErrors && kind < 5) {
            int e = newError();
            CHECK.due(when + " error", doors().error(e), model.error(e));
            // So that it measures to be at the mark, wherever it is.
            int place = random.nextInt(4) == 0 ? -e : random.nextInt(700) - 350;
            CHECK.due(when + " arrive", doors().arrive(place, 0), model.arrive(place, 0));
        } else {
            int place = random.nextInt(4) == 0 ? random.nextInt(4400000) - 2200000 : random.nextInt(800) - 400;
            int speed = random.nextInt(5) == 0 ? random.nextInt(31000) - 100 : 0;
            CHECK.due(when + " arrive", doors().arrive(place, speed), model.arrive(place, speed));
        }
    }

    private void askSome(String when) {
        int side = random.nextInt(2);
        askTold(when, side, random.nextInt(8));
        askLeaf(when, side, random.nextInt(8), random.nextInt(8));
        int kind = random.nextInt(4);
        if (kind == 0) {
            askWhole(when);
        } else if (kind == 1) {
            askFrame(when, side, k(side), random.nextInt(6));
        }
    }

    private void askAll(String when) {
        for (int side = 0; side < 2; side++) {
            for (int which = 0; which < 8; which++) {
                askTold(when, side, which);
                for (int leaf = 0; leaf < 8; leaf++) {
                    askLeaf(when, side, leaf, which);
                }
            }
            for (int k = 0; k < model.told(side, 4); k++) {
                for (int which = 0; which < 6; which++) {
                    askFrame(when, side, k, which);
                }
            }
        }
        askWhole(when);
    }

    private void askTold(String when, int side, int which) {
        CHECK.due(when + " told(" + side + ", " + which + ")", doors().told(side, which), model.told(side, which));
    }

    private void askLeaf(String when, int side, int leaf, int which) {
        CHECK.due(when + " leaf(" + side + ", " + leaf + ", " + which + ")",
            doors().leaf(side, leaf, which), model.leaf(side, leaf, which));
        staffSeen += which == 5 ? model.leaf(side, leaf, 5) : 0;
    }

    private void askFrame(String when, int side, int k, int which) {
        CHECK.due(when + " frame(" + side + ", " + k + ", " + which + ")",
            doors().frame(side, k, which), model.frame(side, k, which));
    }

    private void askWhole(String when) {
        CHECK.due(when + " mayGo", doors().mayGo() ? 1 : 0, model.mayGo());
        CHECK.due(when + " breaches", doors().breaches(), model.breaches());
        goSeen += model.mayGo();
    }
}
