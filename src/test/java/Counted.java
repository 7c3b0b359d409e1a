/** A ReplayLink that a test may call 512 times: what later calls answer is free. */
final class Counted {
    static final int MOST_CALLS = 512;

    private final ReplayLink link = new ReplayLink();
    private int calls = 0;

    int calls() {
        return calls;
    }

    int draft(int end, int n, long v) {
        return calledOnceMore().draft(end, n, v);
    }

    int offer(int end) {
        return calledOnceMore().offer(end);
    }

    long check(int end, int what) {
        return calledOnceMore().check(end, what);
    }

    int set(int what, int v) {
        return calledOnceMore().set(what, v);
    }

    int tick(int n) {
        return calledOnceMore().tick(n);
    }

    int settle(int n) {
        return calledOnceMore().settle(n);
    }

    int voids(int end) {
        return calledOnceMore().voids(end);
    }

    int bend(int wire, int place, int i, int mask) {
        return calledOnceMore().bend(wire, place, i, mask);
    }

    int lose(int wire, int place) {
        return calledOnceMore().lose(wire, place);
    }

    int twice(int wire, int place) {
        return calledOnceMore().twice(wire, place);
    }

    int wire(int wire, int place, int what) {
        return calledOnceMore().wire(wire, place, what);
    }

    int end(int end, int what) {
        return calledOnceMore().end(end, what);
    }

    int up(int end, int i) {
        return calledOnceMore().up(end, i);
    }

    int upByte(int end, int i, int k) {
        return calledOnceMore().upByte(end, i, k);
    }

    int count(int what) {
        return calledOnceMore().count(what);
    }

    int keep(int k) {
        return calledOnceMore().keep(k);
    }

    int again(int k) {
        return calledOnceMore().again(k);
    }

    private ReplayLink calledOnceMore() {
        calls++;
        if (calls > MOST_CALLS) {
            throw new IllegalStateException("this test calls one object more than 512 times");
        }
        return link;
    }
}
