import java.util.ArrayList;
import java.util.List;
import java.util.function.Consumer;
import java.util.function.ToLongFunction;

/**
 * "Refused, the first of these: BAD: .. NO: .. FULL. Nothing changes then.": in each of several
 * states every kind of refused call, those refused for two reasons at once among them, is made;
 * then an object must tell and do all that its twin does, of which they were not asked.
 */
public final class RefusalTest implements Names {
    /** A call, told by its name, and the refusal that is due. */
    private record Refused(String name, ToLongFunction<Counted> call, int due) {
    }

    private static final int[] NO_SIDES = {LOWEST, -1, 2, HIGHEST};

    private RefusalTest() {
    }

    public static void main(String[] args) {
        nothingChanges("new", x -> { }, whenNew());
        nothingChanges("busy", withOneKept(Twins::makeBusy), whenBusy());
        nothingChanges("full", withOneKept(Twins::makeFull), whenFull());
        nothingChanges("sixty", withOneKept(Twins::makeSixty), whenSixty());
        nothingChanges("training", withOneKept(Twins::makeTraining), whenTraining());
        nothingChanges("at 20000", withOneKept(Twins::makeOld), whenOld());
        Due.finish();
    }

    private static void nothingChanges(String state, Consumer<Counted> make, List<Refused> calls) {
        List<Refused> all = new ArrayList<>(calls);
        addRefusedInAnyState(all);
        Twins.areAlike(state + ", refused calls behind", make, x -> {
            make.accept(x);
            for (Refused refused : all) {
                refuse(state, x, refused);
            }
        });
        // Each alone too, so that none mends what another one spoils.
        for (Refused refused : all) {
            Twins.tellAlike(state + ", refused " + refused.name, make, x -> {
                make.accept(x);
                refuse(state, x, refused);
            });
        }
    }

    private static void refuse(String state, Counted x, Refused refused) {
        Due.is(state + ": " + refused.name, refused.call.applyAsLong(x), refused.due);
    }

    /** Place 1 keeps a new object, which refused calls must leave there; place 0 keeps nothing. */
    private static Consumer<Counted> withOneKept(Consumer<Counted> make) {
        return x -> {
            x.keep(1);
            make.accept(x);
        };
    }

    private static void add(List<Refused> to, int due, String name, ToLongFunction<Counted> call) {
        to.add(new Refused(name, call, due));
    }

    private static void addRefusedInAnyState(List<Refused> to) {
        for (int side : NO_SIDES) {
            String of = " of side " + side;
            add(to, BAD, "draft" + of, x -> x.draft(side, 1, 1));
            add(to, BAD, "offer" + of, x -> x.offer(side));
            add(to, BAD, "check" + of, x -> x.check(side, 0));
            add(to, BAD, "voids" + of, x -> x.voids(side));
            add(to, BAD, "bend" + of, x -> x.bend(side, 0, 0, 1));
            add(to, BAD, "lose" + of, x -> x.lose(side, 0));
            add(to, BAD, "twice" + of, x -> x.twice(side, 0));
            add(to, BAD, "wire" + of, x -> x.wire(side, -1, 0));
            add(to, BAD, "end" + of, x -> x.end(side, 0));
            add(to, BAD, "up" + of, x -> x.up(side, 0));
            add(to, BAD, "upByte" + of, x -> x.upByte(side, 0, 0));
            add(to, BAD, "keep" + of, x -> x.keep(side));
            add(to, BAD, "again" + of, x -> x.again(side));
        }
        add(to, BAD, "draft of 0", x -> x.draft(0, 0, 1));
        add(to, BAD, "draft of 9", x -> x.draft(0, 9, 1));
        add(to, BAD, "draft of 9 at 2", x -> x.draft(2, 9, 1));
        add(to, BAD, "check 2", x -> x.check(0, 2));
        add(to, BAD, "set DELAY 0", x -> x.set(DELAY, 0));
        add(to, BAD, "set DELAY 7", x -> x.set(DELAY, 7));
        add(to, BAD, "set R 0", x -> x.set(R, 0));
        add(to, BAD, "set R 61", x -> x.set(R, 61));
        add(to, BAD, "set A -1", x -> x.set(A, -1));
        add(to, BAD, "set A 10", x -> x.set(A, 10));
        add(to, BAD, "set 3", x -> x.set(3, 1));
        add(to, BAD, "tick 0", x -> x.tick(0));
        add(to, BAD, "tick 201", x -> x.tick(201));
        add(to, BAD, "settle 0", x -> x.settle(0));
        add(to, BAD, "settle 401", x -> x.settle(401));
        for (int wire = 0; wire < 2; wire++) {
            int on = wire;
            add(to, BAD, "bend at -1", x -> x.bend(on, -1, 0, 1));
            add(to, BAD, "bend at 12", x -> x.bend(on, 12, 0, 1));
            add(to, BAD, "bend of 0", x -> x.bend(on, 0, 3, 0));
            add(to, BAD, "bend of 256", x -> x.bend(on, 0, 3, 256));
            add(to, BAD, "bend of byte -1", x -> x.bend(on, 0, -1, 1));
            add(to, BAD, "bend of byte 32", x -> x.bend(on, 0, 32, 1));
            add(to, BAD, "lose at -1", x -> x.lose(on, -1));
            add(to, BAD, "lose at 12", x -> x.lose(on, 12));
            add(to, BAD, "twice at -1", x -> x.twice(on, -1));
            add(to, BAD, "twice at 12", x -> x.twice(on, 12));
            add(to, BAD, "wire at -2", x -> x.wire(on, -2, 0));
            add(to, BAD, "wire at 0 of 36", x -> x.wire(on, 0, 36));
            add(to, BAD, "end of 14", x -> x.end(on, 14));
            add(to, BAD, "up of -1", x -> x.up(on, -1));
            add(to, BAD, "upByte of -1", x -> x.upByte(on, -1, 0));
            add(to, BAD, "upByte -1", x -> x.upByte(on, 0, -1));
        }
        add(to, BAD, "count 18", x -> x.count(18));
    }

    private static List<Refused> whenNew() {
        List<Refused> calls = new ArrayList<>();
        for (int side = 0; side < 2; side++) {
            int at = side;
            add(calls, NO, "offer of nothing", x -> x.offer(at));
            add(calls, NO, "again of nothing", x -> x.again(at));
            add(calls, BAD, "bend of no frame", x -> x.bend(at, 0, 0, 1));
            add(calls, BAD, "lose of no frame", x -> x.lose(at, 0));
            add(calls, BAD, "twice of no frame", x -> x.twice(at, 0));
            add(calls, BAD, "wire of no frame", x -> x.wire(at, 0, 0));
        }
        return calls;
    }

    private static List<Refused> whenBusy() {
        List<Refused> calls = new ArrayList<>();
        add(calls, FULL, "draft to 25", x -> x.draft(0, 8, -1));
        add(calls, NO, "offer of nothing", x -> x.offer(1));
        add(calls, NO, "again of nothing", x -> x.again(0));
        for (int wire = 0; wire < 2; wire++) {
            int on = wire;
            add(calls, BAD, "lose behind the last", x -> x.lose(on, x.wire(on, -1, 0)));
            add(calls, BAD, "twice behind the last", x -> x.twice(on, x.wire(on, -1, 0)));
            add(calls, BAD, "bend behind the last", x -> x.bend(on, x.wire(on, -1, 0), 0, 1));
            add(calls, BAD, "bend behind the frame",
                    x -> x.bend(on, 0, x.wire(on, 0, LENGTH), 1));
        }
        return calls;
    }

    private static List<Refused> whenFull() {
        List<Refused> calls = new ArrayList<>();
        add(calls, FULL, "draft to 25", x -> x.draft(0, 1, -1));
        add(calls, FULL, "draft to 32", x -> x.draft(0, 8, -1));
        add(calls, BAD, "draft of 9, and full", x -> x.draft(0, 9, -1));
        add(calls, BAD, "draft of 0, and full", x -> x.draft(0, 0, -1));
        add(calls, FULL, "offer of the 17th", x -> x.offer(0));
        add(calls, NO, "offer of nothing, and full", x -> x.offer(1));
        for (int wire = 0; wire < 2; wire++) {
            int on = wire;
            add(calls, FULL, "twice of the first", x -> x.twice(on, 0));
            add(calls, FULL, "twice of the last", x -> x.twice(on, 11));
            add(calls, BAD, "twice at 12, and full", x -> x.twice(on, 12));
            add(calls, BAD, "twice at -1, and full", x -> x.twice(on, -1));
        }
        add(calls, BAD, "twice on 2, and full", x -> x.twice(2, 0));
        add(calls, NO, "again of nothing", x -> x.again(0));
        add(calls, BAD, "bend of no byte by no mask", x -> x.bend(0, 0, 9, 0));
        return calls;
    }

    private static List<Refused> whenSixty() {
        List<Refused> calls = new ArrayList<>();
        add(calls, FULL, "offer of the 61st", x -> x.offer(1));
        add(calls, NO, "offer of nothing", x -> x.offer(0));
        add(calls, BAD, "offer at 2", x -> x.offer(2));
        add(calls, NO, "again of nothing", x -> x.again(0));
        return calls;
    }

    private static List<Refused> whenTraining() {
        List<Refused> calls = new ArrayList<>();
        add(calls, NO, "again of nothing", x -> x.again(0));
        for (int side = 0; side < 2; side++) {
            int at = side;
            add(calls, NO, "offer of nothing", x -> x.offer(at));
            add(calls, BAD, "bend of what is gone", x -> x.bend(at, 0, 0, 1));
            add(calls, BAD, "lose of what is gone", x -> x.lose(at, 0));
            add(calls, BAD, "twice of what is gone", x -> x.twice(at, 0));
            add(calls, BAD, "wire of what is gone", x -> x.wire(at, 0, 0));
        }
        return calls;
    }

    private static List<Refused> whenOld() {
        List<Refused> calls = new ArrayList<>();
        add(calls, FULL, "tick 1", x -> x.tick(1));
        add(calls, FULL, "tick 200", x -> x.tick(200));
        add(calls, FULL, "settle 1", x -> x.settle(1));
        add(calls, FULL, "settle 400", x -> x.settle(400));
        add(calls, BAD, "tick 201, and full", x -> x.tick(201));
        add(calls, BAD, "tick 0, and full", x -> x.tick(0));
        add(calls, BAD, "tick -1, and full", x -> x.tick(-1));
        add(calls, BAD, "tick of the highest, and full", x -> x.tick(HIGHEST));
        add(calls, BAD, "settle 401, and full", x -> x.settle(401));
        add(calls, BAD, "settle 0, and full", x -> x.settle(0));
        add(calls, BAD, "settle of the highest, and full", x -> x.settle(HIGHEST));
        add(calls, NO, "again of nothing", x -> x.again(0));
        return calls;
    }
}
