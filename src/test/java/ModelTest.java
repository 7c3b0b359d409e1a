/** Runs of random calls, from fixed seeds, answered by ReplayLink and by the Model alike. */
public final class ModelTest {
    private static final int RUNS = 3000;
    private static final int CALLS = 512;
    private static final int[] ODD = {
        Integer.MIN_VALUE, -65, -2, -1, 0, 1, 2, 3, 24, 25, 60, 64, 256, 401, Integer.MAX_VALUE};

    private final ReplayLink x = new ReplayLink();
    private final Model model = new Model();
    private final int run;
    private long seed;
    private int calls = 0;
    // How apt a run is to spoil its wires, and how long it ticks at once.
    private final int mischief;
    private final int stride;
    // An eager run offers all that one end may ever offer, and more.
    private final boolean eager;

    private ModelTest(int run) {
        this.run = run;
        seed = run * 0x9E3779B97F4A7C15L + 1;
        mischief = random(4);
        stride = 1 + random(3) * random(6);
        eager = random(3) == 0;
    }

    public static void main(String[] args) {
        for (int run = 0; run < RUNS; run++) {
            ModelTest test = new ModelTest(run);
            while (test.calls < CALLS) {
                test.oneStep();
            }
        }
        Due.finish();
    }

    private int random(int below) {
        seed = seed * 6364136223846793005L + 1442695040888963407L;
        return (int) ((seed >>> 33) % below);
    }

    /** Mostly a number among those told, at times another. */
    private int number(int low, int high) {
        return random(25) == 0 ? ODD[random(ODD.length)] : low + random(high - low + 1);
    }

    private int side() {
        return number(0, 1);
    }

    private int place(int wire) {
        int there = model.wire(wire, -1, 0);
        return number(0, there < 1 ? 0 : there - 1);
    }

    private void due(String call, long got, long want) {
        calls++;
        Due.is("run " + run + ", call " + calls + ": " + call, got, want);
    }

    private void oneStep() {
        int which = random(20);
        if (which < 4) {
            newPacket(side());
        } else if (eager && which < 17 && which > 10) {
            newPacket(0);
        } else if (which < 8) {
            pass();
        } else if (which < 8 + mischief) {
            spoil();
        } else if (which < 12) {
            rare();
        } else {
            ask();
        }
    }

    private void newPacket(int end) {
        int n = number(1, 8);
        long v = (long) random(1 << 30) << 34 ^ (long) random(1 << 30) << 7 ^ random(1 << 30);
        due("draft(" + end + ", " + n + ", " + v + ")", x.draft(end, n, v), model.draft(end, n, v));
        if (eager || random(3) != 0) {
            due("offer(" + end + ")", x.offer(end), model.offer(end));
        }
    }

    private void pass() {
        if (random(12) == 0) {
            int n = random(3) == 0 ? number(1, 400) : number(1, 8);
            due("settle(" + n + ")", x.settle(n), model.settle(n));
        } else {
            int n = random(40) == 0 ? number(1, 200) : number(1, stride);
            due("tick(" + n + ")", x.tick(n), model.tick(n));
        }
    }

    private void spoil() {
        int wire = side();
        int place = place(wire);
        switch (random(5)) {
            case 0 -> due("lose(" + wire + ", " + place + ")", x.lose(wire, place),
                    model.lose(wire, place));
            case 1, 2 -> due("twice(" + wire + ", " + place + ")", x.twice(wire, place),
                    model.twice(wire, place));
            case 3 -> bend(wire, place, number(0, 9), number(1, 255));
            default -> forge(wire, place);
        }
    }

    private void bend(int wire, int place, int i, int mask) {
        due("bend(" + wire + ", " + place + ", " + i + ", " + mask + ")",
                x.bend(wire, place, i, mask), model.bend(wire, place, i, mask));
    }

    /** Bends a frame into another right one of its length, or one with a number past 63. */
    private void forge(int wire, int place) {
        int length = model.wire(wire, place, 0);
        if (length < 6) {
            return;
        }
        int number = random(10) == 0 ? 64 + random(192) : nearNumber(wire);
        int[] want;
        if (length == 6) {
            int[] kinds = {0, 16, 16, 1};
            want = Due.wordFrame(kinds[random(kinds.length)], number);
        } else {
            int[] packet = new int[length - 8];
            for (int i = 0; i < packet.length; i++) {
                packet[i] = model.wire(wire, place, 6 + i);
            }
            want = random(5) == 0 ? Due.voidFrame(number, packet) : Due.dataFrame(number, packet);
        }
        for (int i = 0; i < length; i++) {
            int has = model.wire(wire, place, 3 + i);
            if (has != want[i]) {
                bend(wire, place, i, has ^ want[i]);
            }
        }
    }

    private int nearNumber(int wire) {
        int about = random(2) == 0 ? model.end(1 - wire, 7) : model.end(1 - wire, 3);
        int[] away = {0, 0, 0, 1, 1, 2, 3, 8, 30, 31, 32, 33, -1, -2, -31, -32, -33};
        return Math.floorMod(about + away[random(away.length)], 64);
    }

    private void rare() {
        int end = side();
        int k = side();
        switch (random(5)) {
            case 0 -> due("voids(" + end + ")", x.voids(end), model.voids(end));
            case 1 -> due("keep(" + k + ")", x.keep(k), model.keep(k));
            case 2 -> {
                if (random(4) == 0) {
                    due("again(" + k + ")", x.again(k), model.again(k));
                }
            }
            default -> set();
        }
    }

    private void set() {
        int[] high = {6, 60, 9};
        int what = number(0, 2);
        int most = what < 0 || what > 2 ? 9 : high[what];
        int v = number(0, random(2) == 0 ? Math.min(most, 6) : most + 1);
        due("set(" + what + ", " + v + ")", x.set(what, v), model.set(what, v));
    }

    private void ask() {
        int side = side();
        int place = place(side);
        int what = number(0, 13);
        switch (random(8)) {
            case 0 -> due("check(" + side + ", " + (what & 1) + ")", x.check(side, what & 1),
                    model.check(side, what & 1));
            case 1 -> due("wire(" + side + ", -1, " + what + ")", x.wire(side, -1, what),
                    model.wire(side, -1, what));
            case 2 -> {
                what = random(2) == 0 ? number(0, 2) : number(3, 36);
                due("wire(" + side + ", " + place + ", " + what + ")", x.wire(side, place, what),
                        model.wire(side, place, what));
            }
            case 3, 4 -> due("end(" + side + ", " + what + ")", x.end(side, what),
                    model.end(side, what));
            case 5 -> {
                what = number(0, 17);
                due("count(" + what + ")", x.count(what), model.count(what));
            }
            default -> askForUp(side);
        }
    }

    private void askForUp(int side) {
        int there = Math.max(0, model.end(side, 12));
        int i = number(0, there + 1);
        int k = number(0, 23);
        due("up(" + side + ", " + i + ")", x.up(side, i), model.up(side, i));
        due("upByte(" + side + ", " + i + ", " + k + ")", x.upByte(side, i, k),
                model.upByte(side, i, k));
    }
}
