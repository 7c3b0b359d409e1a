import java.util.function.Consumer;

/**
 * "All is kept in place k", "All is as it was kept in place k", "all of it (but what is kept)": in
 * each of several states, an object that was stirred and brought back must tell and do all that
 * its twin does, which was not.
 */
public final class KeptTest implements Names {
    private KeptTest() {
    }

    public static void main(String[] args) {
        for (int k = 0; k < 2; k++) {
            allIsAsItWasKept("new", x -> { }, k);
            allIsAsItWasKept("busy", Twins::makeBusy, k);
            allIsAsItWasKept("full", Twins::makeFull, k);
            allIsAsItWasKept("sixty", Twins::makeSixty, k);
            allIsAsItWasKept("training", Twins::makeTraining, k);
            allIsAsItWasKept("at 20000", Twins::makeOld, k);
        }
        Due.finish();
    }

    private static void allIsAsItWasKept(String state, Consumer<Counted> make, int k) {
        Consumer<Counted> keep = x -> {
            x.keep(1 - k);
            make.accept(x);
            x.keep(k);
        };
        Twins.areAlike(state + ", kept in " + k + ", stirred", keep, x -> {
            keep.accept(x);
            stir(x);
            x.again(k);
        });
        // From the other place, a new object, it can be brought to where other packets were.
        Twins.areAlike(state + ", kept in " + k + ", begun anew", keep, x -> {
            keep.accept(x);
            Due.is("a new one", x.again(1 - k), 0);
            stir(x);
            x.again(k);
        });
        // What is stirred behind again() does not reach what is kept.
        Twins.areAlike(state + ", kept in " + k + ", brought back twice", keep, x -> {
            keep.accept(x);
            x.again(k);
            stir(x);
            x.again(k);
        });
    }

    /** Changes all that an object has, as far as it may. */
    private static void stir(Counted x) {
        x.set(DELAY, 2);
        x.set(R, 3);
        x.set(A, 1);
        x.voids(0);
        x.voids(1);
        for (int i = 0; i < 5; i++) {
            Due.offer(x, 0, 200, i);
            Due.offer(x, 1, 220, i);
        }
        x.tick(4);
        for (int wire = 0; wire < 2; wire++) {
            x.bend(wire, 0, 1, 255);
            x.bend(wire, 0, 3, 255);
            x.twice(wire, 0);
            x.lose(wire, 1);
        }
        x.tick(25);
        x.draft(0, 4, -1);
        x.draft(1, 4, -1);
        x.set(DELAY, 6);
        x.set(R, 50);
        x.set(A, 8);
        x.voids(0);
        x.voids(1);
        Due.offerOnes(x, 0, 240, 242);
        Due.offerOnes(x, 1, 250, 252);
        x.tick(2);
    }
}
