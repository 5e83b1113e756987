import java.util.NoSuchElementException;

/** Each promise of the document by its number: ordinary calls, the edges that it names, and wrong arguments. */
public final class PromisesTest {
    private static final int NONE = Couriersday.NONE;
    private static final Class<?> INDEX = IndexOutOfBoundsException.class;
    private static final Class<?> ARGUMENT = IllegalArgumentException.class;
    private static final Class<?> STATE = IllegalStateException.class;
    private static final Class<?> ELEMENT = NoSuchElementException.class;
    private static int wrong = 0;
    private static int promise = 0;

    private interface Call {
        Object answer();
    }

    private static void due(long want, long got) {
        check(want == got, "answered " + got + ", due is " + want);
    }

    private static void check(boolean isGood, String told) {
        if (!isGood) {
            wrong++;
            System.out.println("promise " + promise + ", line "
                    + StackWalker.getInstance().walk(s -> s.filter(f -> f.getMethodName().startsWith("promise"))
                            .findFirst().map(StackWalker.StackFrame::getLineNumber).orElse(0)) + ": " + told);
        }
    }

    private static void dueThrown(Class<?> kind, Call call) {
        try {
            Object got = call.answer();
            check(false, "answered " + got + ", due is " + kind.getSimpleName());
        } catch (RuntimeException e) {
            check(e.getClass() == kind, "threw " + e.getClass().getSimpleName() + ", due is " + kind.getSimpleName());
        }
    }

    public static void main(String[] args) {
        Runnable[] all = {PromisesTest::promise1, PromisesTest::promise2, PromisesTest::promise3,
            PromisesTest::promise4, PromisesTest::promise5, PromisesTest::promise6, PromisesTest::promise7,
            PromisesTest::promise8, PromisesTest::promise9, PromisesTest::promise10, PromisesTest::promise11,
            PromisesTest::promise12, PromisesTest::promise13, PromisesTest::promise14, PromisesTest::promise15,
            PromisesTest::promise16, PromisesTest::promise17, PromisesTest::promise18, PromisesTest::promise19,
            PromisesTest::promise20, PromisesTest::promise21, PromisesTest::promise22, PromisesTest::promise23,
            PromisesTest::promise24, PromisesTest::promise25, PromisesTest::promise26, PromisesTest::promise27,
            PromisesTest::promise28, PromisesTest::promise29, PromisesTest::promise30, PromisesTest::promise31,
            PromisesTest::promise32, PromisesTest::promise33, PromisesTest::promise34, PromisesTest::promise35,
            PromisesTest::promise36, PromisesTest::promise37, PromisesTest::promise38, PromisesTest::promise39,
            PromisesTest::promise40, PromisesTest::promise41, PromisesTest::promise42, PromisesTest::promise43};
        for (Runnable one : all) {
            promise++;
            one.run();
        }
        System.out.println(wrong == 0 ? "all promises hold" : wrong + " answers are not as due");
        if (wrong != 0) {
            System.exit(1);
        }
    }

    // ---- days to begin with

    private static void both(Couriersday d, int place, int other, int minutes) {
        d.street(place, other, minutes, minutes * 100, 0);
        d.street(other, place, minutes, minutes * 100, 0);
    }

    /** The depot, then places 1 to the last one in a line, ten minutes each, both ways. */
    private static Couriersday line(int last) {
        Couriersday d = new Couriersday();
        for (int place = 0; place < last; place++) {
            both(d, place, place + 1, 10);
        }
        return d;
    }

    /** A line with one van from 480 to 1200 and a parcel of size 10 at each place told. */
    private static Couriersday lineWith(int last, int... places) {
        Couriersday d = line(last);
        d.van(100, 480, 1200);
        for (int place : places) {
            d.parcel(place, 10, 0);
        }
        return d;
    }

    private static void dueRound(Couriersday d, int van, int... parcels) {
        StringBuilder got = new StringBuilder();
        for (int i = 0; i < d.roundAt(van, NONE); i++) {
            got.append(d.roundAt(van, i)).append(' ');
        }
        StringBuilder want = new StringBuilder();
        for (int parcel : parcels) {
            want.append(parcel).append(' ');
        }
        check(got.toString().equals(want.toString()), "the round is " + got + ", due is " + want);
    }

    private static void putAll(Couriersday d, int van, int... parcels) {
        for (int i = 0; i < parcels.length; i++) {
            d.put(van, i, parcels[i]);
        }
    }

    // ---- streets

    private static void promise1() {
        Couriersday d = new Couriersday();
        due(NONE, d.way(0, 1, 0));
        due(0, d.way(15, 15, 0));
        dueThrown(INDEX, () -> d.window(0, 0, 0, 0));
        dueThrown(INDEX, () -> d.roundAt(0, NONE));
        dueThrown(ELEMENT, () -> d.undo());
        due(NONE, d.unlawful());
        due(270, d.mayDrive(false));
        due(540, d.mayDrive(true));
        due(0, d.books(NONE));
        check(d.meanPay() == 0.0, "meanPay is not 0");
        due(0, d.balance());
        due(0, d.errors());
        due(-1, Couriersday.NONE);
        due(0, Couriersday.DRIVE);
        due(1, Couriersday.WORK);
        due(2, Couriersday.REST);
    }

    private static void promise2() {
        Couriersday d = new Couriersday();
        due(1, d.street(0, 15, 1, 1, 0));
        due(2, d.street(15, 0, 120, 50000, 9999));
        dueThrown(INDEX, () -> d.street(-1, 1, 1, 1, 0));
        dueThrown(INDEX, () -> d.street(0, 16, 0, 0, -1));
        dueThrown(INDEX, () -> d.street(16, 16, 1, 1, 0));
        dueThrown(ARGUMENT, () -> d.street(3, 3, 1, 1, 0));
        dueThrown(ARGUMENT, () -> d.street(0, 1, 0, 1, 0));
        dueThrown(ARGUMENT, () -> d.street(0, 1, 121, 1, 0));
        dueThrown(ARGUMENT, () -> d.street(0, 1, 1, 0, 0));
        dueThrown(ARGUMENT, () -> d.street(0, 1, 1, 50001, 0));
        dueThrown(ARGUMENT, () -> d.street(0, 1, 1, 1, -1));
        dueThrown(ARGUMENT, () -> d.street(0, 1, 1, 1, 10000));
        for (int i = 3; i <= 60; i++) {
            due(i, d.street(1, 2, 5, 5, 5));
        }
        dueThrown(STATE, () -> d.street(1, 2, 5, 5, 5));
        dueThrown(ARGUMENT, () -> d.street(1, 2, 0, 5, 5));
        due(5, d.way(1, 2, 0));
        Couriersday e = lineWith(2, 1);
        e.put(0, 0, 0);
        dueThrown(STATE, () -> e.street(0, 1, 1, 1, 1));
        dueThrown(ARGUMENT, () -> e.street(0, 0, 1, 1, 1));
        due(10, e.way(0, 1, 0));
        e.takeOut(0);
        due(5, e.street(0, 1, 1, 1, 1));
        due(1, e.way(0, 1, 0));
        // nor while a parcel is in the round of any other van
        Couriersday f = lineWith(1, 1);
        f.van(10, 0, 100);
        f.van(10, 0, 100);
        f.put(1, 0, 0);
        dueThrown(STATE, () -> f.street(0, 1, 1, 1, 1));
        f.takeOut(0);
        f.put(2, 0, 0);
        dueThrown(STATE, () -> f.street(0, 1, 1, 1, 1));
    }

    private static void promise3() {
        Couriersday d = new Couriersday();
        due(100, d.factor(0, 50));
        due(50, d.factor(0, 300));
        due(100, d.factor(23, 77));
        dueThrown(ARGUMENT, () -> d.factor(-1, 100));
        dueThrown(ARGUMENT, () -> d.factor(24, 100));
        dueThrown(ARGUMENT, () -> d.factor(0, 49));
        dueThrown(ARGUMENT, () -> d.factor(0, 301));
        due(300, d.factor(0, 100));
        due(77, d.factor(23, 100));
    }

    private static void promise4() {
        Couriersday d = new Couriersday();
        d.street(0, 1, 10, 500, 7);
        d.street(1, 2, 10, 500, 7);
        due(20, d.way(0, 2, 0));
        due(1000, d.way(0, 2, 1));
        due(14, d.way(0, 2, 2));
        due(NONE, d.way(2, 0, 0));
        due(NONE, d.way(2, 0, 1));
        due(NONE, d.way(2, 0, 2));
        // the same minutes by less meters, then the same of both by less toll, then fewer minutes whatever else
        d.street(0, 2, 20, 999, 5000);
        due(999, d.way(0, 2, 1));
        due(5000, d.way(0, 2, 2));
        d.street(0, 3, 12, 900, 20);
        d.street(3, 2, 8, 99, 3);
        due(23, d.way(0, 2, 2));
        d.street(0, 2, 20, 999, 24);
        due(23, d.way(0, 2, 2));
        d.street(0, 2, 19, 50000, 9999);
        due(19, d.way(0, 2, 0));
        due(50000, d.way(0, 2, 1));
        due(9999, d.way(0, 2, 2));
        due(0, d.way(9, 9, 0));
        due(0, d.way(9, 9, 1));
        due(0, d.way(9, 9, 2));
        dueThrown(INDEX, () -> d.way(-1, 0, 0));
        dueThrown(INDEX, () -> d.way(0, 16, 9));
        dueThrown(ARGUMENT, () -> d.way(0, 1, -1));
        dueThrown(ARGUMENT, () -> d.way(0, 1, 3));
        // a new street shortens ways that go through it in their middle
        d.street(5, 6, 3, 3, 3);
        d.street(7, 8, 4, 4, 4);
        due(NONE, d.way(5, 8, 0));
        d.street(6, 7, 2, 2, 2);
        due(9, d.way(5, 8, 0));
        due(9, d.way(5, 8, 1));
        due(9, d.way(5, 8, 2));
    }

    private static void promise5() {
        Couriersday d = new Couriersday();
        d.street(0, 1, 10, 1, 0);
        d.street(1, 2, 7, 1, 0);
        due(17, d.arrival(0, 2, 0));
        due(1439, d.arrival(4, 4, 1439));
        due(NONE, d.arrival(2, 0, 0));
        // rounded up: 7 minutes by 115 percent are 8.05
        d.factor(1, 115);
        due(69, d.arrival(1, 2, 60));
        Couriersday up = new Couriersday();
        up.street(0, 1, 1, 1, 0);
        up.factor(0, 101);
        due(2, up.arrival(0, 1, 0));
        up.factor(0, 50);
        due(1, up.arrival(0, 1, 0));
        // the hour of entering counts alone, also for a way into the next hour
        due(66, d.arrival(1, 2, 59));
        // to wait for a better hour at the begin, and on the way
        d.factor(0, 300);
        d.factor(1, 50);
        due(30, d.arrival(0, 1, 0));
        due(64, d.arrival(1, 2, 50));
        due(65, d.arrival(0, 1, 58));
        due(64, d.arrival(0, 2, 30));
        // over more than one bad hour
        Couriersday e = new Couriersday();
        e.street(0, 1, 120, 1, 0);
        e.factor(0, 300);
        e.factor(1, 300);
        e.factor(2, 50);
        due(180, e.arrival(0, 1, 0));
        e.factor(2, 300);
        e.factor(3, 300);
        e.factor(4, 50);
        due(300, e.arrival(0, 1, 0));
        // the next day has the same hours
        Couriersday f = new Couriersday();
        f.street(0, 1, 100, 1, 0);
        f.factor(23, 300);
        f.factor(0, 50);
        due(1490, f.arrival(0, 1, 1439));
        f.factor(0, 300);
        f.factor(1, 150);
        due(1650, f.arrival(0, 1, 1400));
        dueThrown(INDEX, () -> f.arrival(0, -1, -1));
        dueThrown(INDEX, () -> f.arrival(16, 0, 0));
        dueThrown(ARGUMENT, () -> f.arrival(0, 1, -1));
        dueThrown(ARGUMENT, () -> f.arrival(0, 1, 1440));
        dueThrown(ARGUMENT, () -> f.arrival(1, 0, 1440));
    }

    private static void promise6() {
        Couriersday d = new Couriersday();
        due(0, d.clock(0, 0, 0));
        due(1439, d.clock(23, 59, 0));
        due(0, d.clock(23, 59, 1));
        due(754, d.clock(12, 34, 0));
        due(754, d.clock(12, 34, 1440 * 60));
        due(639, d.clock(23, 59, 100000));
        dueThrown(ARGUMENT, () -> d.clock(-1, 0, 0));
        dueThrown(ARGUMENT, () -> d.clock(24, 0, 0));
        dueThrown(ARGUMENT, () -> d.clock(0, -1, 0));
        dueThrown(ARGUMENT, () -> d.clock(0, 60, 0));
        dueThrown(ARGUMENT, () -> d.clock(0, 0, -1));
        dueThrown(ARGUMENT, () -> d.clock(0, 0, 100001));
        dueThrown(ARGUMENT, () -> d.clock(Integer.MAX_VALUE, Integer.MIN_VALUE, 0));
    }

    // ---- parcels, vans

    private static void promise7() {
        Couriersday d = new Couriersday();
        dueThrown(INDEX, () -> d.parcel(16, 1, 0));
        dueThrown(INDEX, () -> d.parcel(-1, 0, 0));
        dueThrown(INDEX, () -> d.parcel(0, 0, 3));
        dueThrown(INDEX, () -> d.parcel(1, 1, -1));
        dueThrown(ARGUMENT, () -> d.parcel(0, 1, 0));
        dueThrown(ARGUMENT, () -> d.parcel(1, 0, 0));
        dueThrown(ARGUMENT, () -> d.parcel(1, 101, 0));
        for (int i = 0; i < 9; i++) {
            due(i, d.parcel(15 - i, 100 - i, i % 3));
        }
        dueThrown(STATE, () -> d.parcel(1, 1, 0));
        dueThrown(ARGUMENT, () -> d.parcel(0, 1, 0));
        due(7, d.parcelAt(8, 4));
        due(92, d.parcelAt(8, 5));
        due(2, d.parcelAt(8, 6));
        due(0, d.parcelAt(8, 0));
        // its window is the whole day: a service may begin at 1439, not behind it
        Couriersday e = line(1);
        e.van(10, 1429, 2000);
        e.parcel(1, 1, 0);
        due(20, e.put(0, 0, 0));
        due(1439, e.served(0));
        e.van(10, 1430, 2000);
        e.takeOut(0);
        dueThrown(STATE, () -> e.put(1, 0, 0));
        due(0, e.window(0, 0, 1439, 9));
    }

    private static void promise8() {
        Couriersday d = lineWith(1, 1);
        due(0, d.window(0, 500, 510, 7));
        due(7, d.window(0, 0, 0, 60));
        due(60, d.window(0, 1439, 1439, 0));
        due(0, d.window(0, 500, 510, 8));
        due(500 - 480 + 8 + 10, d.put(0, 0, 0));
        dueThrown(INDEX, () -> d.window(1, 5, 4, 0));
        dueThrown(INDEX, () -> d.window(-1, 0, 0, 0));
        dueThrown(ARGUMENT, () -> d.window(0, -1, 4, 0));
        dueThrown(ARGUMENT, () -> d.window(0, 5, 4, 0));
        dueThrown(ARGUMENT, () -> d.window(0, 0, 1440, 0));
        dueThrown(ARGUMENT, () -> d.window(0, 1440, 1440, 0));
        dueThrown(ARGUMENT, () -> d.window(0, 0, 0, -1));
        dueThrown(ARGUMENT, () -> d.window(0, 0, 0, 61));
        dueThrown(STATE, () -> d.window(0, 0, 0, 0));
        d.takeOut(0);
        // one that throws leaves what can be undone; one that goes through lets nothing be undone
        dueThrown(ARGUMENT, () -> d.window(0, 5, 4, 0));
        due(1, d.undo());
        due(0, d.undo());
        d.put(0, 0, 0);
        d.takeOut(0);
        due(8, d.window(0, 490, 490, 0));
        dueThrown(ELEMENT, () -> d.undo());
        // both ends of a window are in it
        due(20, d.put(0, 0, 0));
        d.takeOut(0);
        d.window(0, 0, 489, 0);
        dueThrown(STATE, () -> d.put(0, 0, 0));
        d.window(0, 491, 1439, 0);
        due(21, d.put(0, 0, 0));
    }

    private static void promise9() {
        Couriersday d = new Couriersday();
        dueThrown(ARGUMENT, () -> d.van(0, 0, 0));
        dueThrown(ARGUMENT, () -> d.van(901, 0, 0));
        dueThrown(ARGUMENT, () -> d.van(1, -1, 0));
        dueThrown(ARGUMENT, () -> d.van(1, 1440, 1440));
        dueThrown(ARGUMENT, () -> d.van(1, 5, 4));
        dueThrown(ARGUMENT, () -> d.van(1, 0, 2001));
        due(0, d.van(1, 0, 0));
        due(1, d.van(900, 1439, 1439));
        due(2, d.van(900, 1439, 2000));
        dueThrown(STATE, () -> d.van(1, 0, 0));
        dueThrown(ARGUMENT, () -> d.van(0, 0, 0));
    }

    // ---- rounds

    private static void promise10() {
        Couriersday d = lineWith(3, 1, 2, 3, 1);
        due(20, d.put(0, 0, 0));
        due(40, d.put(0, 1, 1));
        due(80, d.put(0, 0, 2));
        dueRound(d, 0, 2, 0, 1);
        due(80, d.ofRound(0, 0));
        dueThrown(INDEX, () -> d.put(1, 0, 3));
        dueThrown(INDEX, () -> d.put(-1, 0, 3));
        dueThrown(INDEX, () -> d.put(0, 0, 4));
        dueThrown(INDEX, () -> d.put(0, 0, -1));
        dueThrown(INDEX, () -> d.put(0, 4, 3));
        dueThrown(INDEX, () -> d.put(0, -1, 3));
        dueThrown(INDEX, () -> d.put(0, 9, 0));
        dueThrown(STATE, () -> d.put(0, 0, 0));
        dueRound(d, 0, 2, 0, 1);
        // back just in time, and room for just these sizes
        Couriersday e = line(2);
        e.van(30, 480, 520);
        e.van(29, 480, 2000);
        e.van(30, 480, 519);
        e.parcel(2, 10, 0);
        e.parcel(1, 20, 0);
        due(40, e.put(0, 0, 0));
        due(40, e.put(0, 0, 1));
        e.takeOut(0);
        dueThrown(STATE, () -> e.put(2, 0, 0));
        e.takeOut(1);
        due(40, e.put(1, 0, 0));
        dueThrown(STATE, () -> e.put(1, 0, 1));
        // the service at the last door is ahead of the way back
        e.window(1, 0, 1439, 20);
        dueThrown(STATE, () -> e.put(2, 0, 1));
        due(40, e.put(0, 0, 1));
        // the places that are not joined both ways
        Couriersday f = new Couriersday();
        f.street(0, 1, 5, 1, 0);
        f.street(2, 0, 5, 1, 0);
        f.van(100, 0, 2000);
        f.parcel(1, 1, 0);
        f.parcel(2, 1, 0);
        dueThrown(STATE, () -> f.put(0, 0, 0));
        dueThrown(STATE, () -> f.put(0, 0, 1));
        f.street(1, 2, 5, 1, 0);
        due(15, f.put(0, 0, 1));
        due(15, f.put(0, 0, 0));
        dueThrown(STATE, () -> f.put(0, 2, 0));
    }

    private static void promise11() {
        Couriersday d = lineWith(3, 1, 2, 3);
        d.van(50, 0, 2000);
        putAll(d, 1, 0, 1, 2);
        dueThrown(INDEX, () -> d.takeOut(3));
        dueThrown(INDEX, () -> d.takeOut(-1));
        due(1, d.takeOut(1));
        dueRound(d, 1, 0, 2);
        dueThrown(STATE, () -> d.takeOut(1));
        due(1, d.takeOut(0));
        due(1, d.takeOut(2));
        dueRound(d, 1);
        due(0, d.ofRound(1, 0));
    }

    private static void promise12() {
        Couriersday d = lineWith(4, 1, 2, 3, 4);
        due(0, d.turned(0, 0, 0));
        putAll(d, 0, 0, 1, 2, 3);
        due(80, d.turned(0, 0, 4));
        dueRound(d, 0, 3, 2, 1, 0);
        due(120, d.turned(0, 1, 4));
        dueRound(d, 0, 3, 0, 1, 2);
        due(120, d.turned(0, 2, 3));
        due(120, d.turned(0, 4, 4));
        dueRound(d, 0, 3, 0, 1, 2);
        dueThrown(INDEX, () -> d.turned(1, 0, 0));
        dueThrown(INDEX, () -> d.turned(0, -1, 2));
        dueThrown(INDEX, () -> d.turned(0, 0, 5));
        dueThrown(INDEX, () -> d.turned(0, 2, 1));
        Couriersday e = lineWith(2, 1, 2);
        e.window(0, 0, 490, 0);
        putAll(e, 0, 0, 1);
        dueThrown(STATE, () -> e.turned(0, 0, 2));
        dueRound(e, 0, 0, 1);
        due(1, e.undo());
    }

    private static void promise13() {
        Couriersday d = lineWith(4, 1, 2, 3, 4);
        d.van(35, 480, 1200);
        putAll(d, 0, 0, 1, 2);
        d.put(1, 0, 3);
        dueThrown(INDEX, () -> d.swapEnds(0, 0, 2, 0));
        dueThrown(INDEX, () -> d.swapEnds(-1, 0, 1, 0));
        dueThrown(INDEX, () -> d.swapEnds(0, 4, 1, 0));
        dueThrown(INDEX, () -> d.swapEnds(0, 0, 1, 2));
        dueThrown(INDEX, () -> d.swapEnds(0, -1, 1, 0));
        dueThrown(INDEX, () -> d.swapEnds(0, 9, 0, 0));
        dueThrown(ARGUMENT, () -> d.swapEnds(0, 0, 0, 0));
        // the end of the one goes behind the begin of the other
        due(80 + 60, d.swapEnds(0, 1, 1, 0));
        dueRound(d, 0, 0, 3);
        dueRound(d, 1, 1, 2);
        due(40 + 80, d.swapEnds(1, 1, 0, 2));
        dueRound(d, 0, 0, 3, 2);
        dueRound(d, 1, 1);
        // all four sizes are above the room of the van 1
        dueThrown(STATE, () -> d.swapEnds(0, 0, 1, 1));
        dueRound(d, 0, 0, 3, 2);
        dueRound(d, 1, 1);
        due(80, d.swapEnds(0, 3, 1, 0));
        dueRound(d, 0, 0, 3, 2, 1);
        dueRound(d, 1);
        due(6, d.undo());
        dueRound(d, 0, 0, 3, 2);
        dueRound(d, 1, 1);
    }

    private static void promise14() {
        // two arms of the depot: 1 and 2 on the one, 3 and 4 on the other
        Couriersday d = new Couriersday();
        both(d, 0, 1, 10);
        both(d, 1, 2, 10);
        both(d, 0, 3, 10);
        both(d, 3, 4, 10);
        d.van(40, 480, 1200);
        d.van(20, 480, 1200);
        for (int place = 1; place <= 4; place++) {
            d.parcel(place, 10, 0);
        }
        // savings: 20 for (0, 1), (1, 0), (2, 3), (3, 2), else 0; then the least p behind is the 1
        due(4, d.savings(0));
        dueRound(d, 0, 0, 1, 2, 3);
        dueThrown(STATE, () -> d.savings(0));
        dueThrown(INDEX, () -> d.savings(2));
        due(0, d.savings(1));
        due(1, d.undo());
        due(0, d.undo());
        // a lesser room: two pieces of two, the one with the least first parcel becomes the round
        due(2, d.savings(1));
        dueRound(d, 1, 0, 1);
        due(2, d.savings(0));
        dueRound(d, 0, 2, 3);
        // a parcel that is not kept alone, or not WAITING, is no piece
        Couriersday e = lineWith(2, 1, 2, 1);
        e.window(0, 0, 10, 0);
        e.put(0, 0, 2);
        e.door(2, true);
        due(1, e.savings(0));
        dueRound(e, 0, 1);
        // windows decide which way round pieces are joined
        Couriersday f = lineWith(2, 1, 2);
        f.window(1, 0, 500, 0);
        f.window(0, 510, 1439, 0);
        due(2, f.savings(0));
        dueRound(f, 0, 1, 0);
        // joined also by a saving below 0: one way streets of a ring, where the way back is dear
        Couriersday g = new Couriersday();
        g.street(0, 1, 10, 1, 0);
        g.street(1, 0, 10, 1, 0);
        g.street(0, 2, 10, 1, 0);
        g.street(2, 0, 10, 1, 0);
        g.van(100, 0, 2000);
        g.parcel(2, 1, 0);
        g.parcel(1, 1, 0);
        due(2, g.savings(0));
        dueRound(g, 0, 0, 1);
    }

    private static void promise15() {
        Couriersday d = lineWith(4, 1, 3, 2, 4);
        d.van(15, 480, 1200);
        due(0, d.putIn(1));
        // on the way at no cost: the least place
        due(0, d.putIn(0));
        dueRound(d, 0, 0, 1);
        due(0, d.putIn(2));
        dueRound(d, 0, 0, 2, 1);
        dueThrown(STATE, () -> d.putIn(2));
        dueThrown(INDEX, () -> d.putIn(4));
        dueThrown(INDEX, () -> d.putIn(-1));
        // of several the least van
        Couriersday e = line(1);
        e.van(5, 480, 1200);
        e.van(10, 480, 1200);
        e.van(10, 480, 1200);
        e.parcel(1, 10, 0);
        e.parcel(1, 10, 0);
        e.parcel(1, 10, 0);
        due(1, e.putIn(2));
        due(2, e.putIn(0));
        dueThrown(ELEMENT, () -> e.putIn(1));
        due(1, e.undo());
        Couriersday f = new Couriersday();
        f.parcel(1, 1, 0);
        dueThrown(ELEMENT, () -> f.putIn(0));
        f.van(1, 0, 2000);
        dueThrown(ELEMENT, () -> f.putIn(0));
        Couriersday g = lineWith(1, 1);
        g.put(0, 0, 0);
        g.door(0, true);
        dueThrown(STATE, () -> g.putIn(0));
    }

    private static void promise16() {
        Couriersday d = lineWith(4, 2, 4, 1);
        due(40, d.putInCost(0));
        d.putIn(0);
        due(40, d.putInCost(1));
        due(0, d.putInCost(2));
        dueThrown(STATE, () -> d.putInCost(0));
        dueThrown(INDEX, () -> d.putInCost(3));
        dueThrown(INDEX, () -> d.putInCost(-1));
        d.window(2, 0, 485, 0);
        due(NONE, d.putInCost(2));
        d.window(2, 600, 1439, 5);
        due(600 + 5 + 10 - 480 - 40, d.putInCost(2));
        // it changes nothing
        dueRound(d, 0, 0);
        dueThrown(ELEMENT, () -> d.undo());
        d.door(0, true);
        dueThrown(STATE, () -> d.putInCost(0));
        Couriersday e = new Couriersday();
        e.parcel(1, 1, 0);
        due(NONE, e.putInCost(0));
    }

    private static void promise17() {
        Couriersday d = lineWith(4, 1, 2, 3, 4);
        due(0, d.better(0));
        putAll(d, 0, 1, 3, 0, 2);
        due(120, d.ofRound(0, 0));
        // of several least rounds the first by numbers: 0 1 3 2 costs 80, by moving the 0 ahead
        due(40, d.better(0));
        dueRound(d, 0, 0, 1, 3, 2);
        due(0, d.better(0));
        dueThrown(INDEX, () -> d.better(1));
        dueThrown(INDEX, () -> d.better(-1));
        // the same cost is no betterment, though 0 1 is the lesser round
        Couriersday e = lineWith(2, 1, 2);
        putAll(e, 0, 1, 0);
        due(0, e.better(0));
        dueRound(e, 0, 1, 0);
        due(2, e.undo());
        // one way round a ring: by turning all of it round
        Couriersday f = new Couriersday();
        for (int place = 0; place <= 4; place++) {
            f.street(place, (place + 1) % 5, 10, 1, 0);
        }
        f.van(100, 0, 2000);
        for (int place = 1; place <= 4; place++) {
            f.parcel(place, 1, 0);
        }
        putAll(f, 0, 3, 2, 1, 0);
        due(200, f.ofRound(0, 0));
        due(150, f.better(0));
        dueRound(f, 0, 0, 1, 2, 3);
        // with a window that all of the least rounds keep
        Couriersday g = lineWith(4, 1, 2, 3, 4);
        g.window(3, 0, 530, 0);
        putAll(g, 0, 1, 3, 0, 2);
        due(40, g.better(0));
        dueRound(g, 0, 0, 1, 3, 2);
        Couriersday h = lineWith(4, 1, 2, 3, 4);
        h.window(0, 520, 1439, 0);
        h.window(3, 0, 520, 0);
        putAll(h, 0, 1, 3, 0, 2);
        // the doors 2 4 1 3 take 120; 2 3 4 1 and 2 4 3 1 take 80, with the 1 ahead the 4 would be late
        due(40, h.better(0));
        dueRound(h, 0, 1, 2, 3, 0);
    }

    private static void promise18() {
        Couriersday d = lineWith(4, 1, 2, 3, 4);
        due(0, d.exact(0));
        dueRound(d, 0);
        putAll(d, 0, 3, 0, 2, 1);
        due(80, d.exact(0));
        dueRound(d, 0, 0, 1, 2, 3);
        due(5, d.undo());
        dueRound(d, 0, 3, 0, 2, 1);
        dueThrown(INDEX, () -> d.exact(1));
        dueThrown(INDEX, () -> d.exact(-1));
        // with a window the round is that which keeps it
        Couriersday e = lineWith(4, 1, 2, 3, 4);
        e.window(3, 0, 520, 0);
        putAll(e, 0, 3, 1, 0, 2);
        due(80, e.exact(0));
        dueRound(e, 0, 0, 1, 2, 3);
        e.takeOut(3);
        e.window(3, 0, 519, 0);
        dueThrown(STATE, () -> e.put(0, 3, 3));
        // nine parcels, all at different doors, put from the last one on
        Couriersday f = line(9);
        f.van(900, 0, 2000);
        for (int place = 9; place >= 1; place--) {
            f.parcel(place, 1, 0);
            f.put(0, (9 - place) / 2, 9 - place);
        }
        due(180, f.exact(0));
        dueRound(f, 0, 0, 1, 2, 3, 4, 5, 6, 7, 8);
        // services and windows: 0 2 1 and 2 0 1 are back just in time at 553, 2 1 0 waits too long
        Couriersday g = line(2);
        g.van(100, 480, 553);
        g.parcel(1, 1, 0);
        g.parcel(1, 1, 0);
        g.parcel(2, 1, 0);
        g.window(0, 0, 1439, 15);
        g.window(1, 525, 535, 10);
        g.window(2, 0, 515, 8);
        putAll(g, 0, 2, 0, 1);
        due(73, g.exact(0));
        dueRound(g, 0, 0, 2, 1);
        due(73, g.together(1));
        g.takeOut(2);
        g.window(2, 0, 514, 8);
        g.put(0, 0, 2);
        due(73, g.exact(0));
        dueRound(g, 0, 2, 0, 1);
    }

    private static void promise19() {
        Couriersday d = lineWith(2, 1, 2);
        due(0, d.roundAt(0, NONE));
        dueThrown(ELEMENT, () -> d.roundAt(0, 0));
        putAll(d, 0, 1, 0);
        due(2, d.roundAt(0, NONE));
        due(1, d.roundAt(0, 0));
        due(0, d.roundAt(0, 1));
        dueThrown(ELEMENT, () -> d.roundAt(0, 2));
        dueThrown(ELEMENT, () -> d.roundAt(0, -2));
        dueThrown(ELEMENT, () -> d.roundAt(0, Integer.MIN_VALUE));
        dueThrown(INDEX, () -> d.roundAt(1, 0));
        dueThrown(INDEX, () -> d.roundAt(-1, NONE));
    }

    private static void promise20() {
        Couriersday d = new Couriersday();
        d.street(0, 1, 10, 1000, 3);
        d.street(1, 2, 5, 700, 4);
        d.street(2, 0, 20, 1500, 5);
        d.street(2, 1, 6, 800, 6);
        d.street(1, 0, 12, 900, 7);
        d.van(100, 480, 1200);
        for (int what = 0; what <= 8; what++) {
            due(0, d.ofRound(0, what));
        }
        d.parcel(1, 11, 0);
        d.parcel(2, 22, 1);
        d.parcel(1, 33, 2);
        d.window(0, 500, 600, 7);
        d.window(1, 0, 1439, 8);
        d.window(2, 530, 530, 9);
        putAll(d, 0, 0, 1, 2);
        // 490 wait 500, on at 507, 512, on at 520, 526 wait 530, on at 539, 551
        due(71, d.ofRound(0, 0));
        due(33, d.ofRound(0, 1));
        due(14, d.ofRound(0, 2));
        due(1000 + 700 + 800 + 900, d.ofRound(0, 3));
        due(3 + 4 + 6 + 7, d.ofRound(0, 4));
        due(66, d.ofRound(0, 5));
        // weights: 0-1 10, 1-2 5, 0-2 15 (over 1, ahead of 18 back); odd doors 0 and 2
        due(15, d.ofRound(0, 6));
        due(30, d.ofRound(0, 7));
        due(15 + 24, d.ofRound(0, 8));
        dueThrown(INDEX, () -> d.ofRound(1, 9));
        dueThrown(INDEX, () -> d.ofRound(-1, 0));
        dueThrown(ARGUMENT, () -> d.ofRound(0, 9));
        dueThrown(ARGUMENT, () -> d.ofRound(0, -1));
        // a star: the tree has the depot and three odd doors besides it: 0, 1, 2, 3 pair by 10 and 20
        Couriersday e = new Couriersday();
        both(e, 0, 1, 10);
        both(e, 0, 2, 10);
        both(e, 0, 3, 10);
        e.van(100, 480, 1200);
        for (int place = 1; place <= 3; place++) {
            e.parcel(place, 1, 0);
        }
        putAll(e, 0, 0, 1, 2);
        due(30, e.ofRound(0, 6));
        due(60, e.ofRound(0, 7));
        // several least trees: a ring of four with 10 each; taken are 0-1, 0-3, 1-2, so that 2 and 3 are odd
        Couriersday f = new Couriersday();
        both(f, 0, 1, 10);
        both(f, 1, 2, 10);
        both(f, 2, 3, 10);
        both(f, 3, 0, 10);
        f.van(100, 480, 1200);
        for (int place = 1; place <= 3; place++) {
            f.parcel(place, 1, 0);
        }
        putAll(f, 0, 0, 1, 2);
        due(30, f.ofRound(0, 6));
        due(40, f.ofRound(0, 7));
        due(30, f.ofRound(0, 8));
        // a star of nine arms: all ten doors are odd; the depot and one of them, the other eight by two
        Couriersday g = new Couriersday();
        g.van(900, 0, 2000);
        for (int place = 1; place <= 9; place++) {
            both(g, 0, place, 10);
            g.parcel(place, 1, 0);
        }
        g.savings(0);
        due(9, g.roundAt(0, NONE));
        due(90, g.ofRound(0, 6));
        due(180, g.ofRound(0, 7));
        // doors at the same place are one; the pairing takes pairs that are no pairs of the tree
        Couriersday h = new Couriersday();
        both(h, 0, 1, 10);
        both(h, 1, 2, 10);
        both(h, 1, 3, 10);
        both(h, 2, 3, 12);
        both(h, 0, 2, 20);
        h.van(900, 0, 2000);
        for (int place : new int[] {1, 1, 2, 3, 3}) {
            h.parcel(place, 1, 0);
        }
        putAll(h, 0, 0, 1, 2, 3, 4);
        due(30, h.ofRound(0, 6));
        due(30 + 10 + 12, h.ofRound(0, 7));
    }

    private static void promise21() {
        Couriersday d = lineWith(3, 1, 2, 3);
        d.window(0, 500, 600, 5);
        putAll(d, 0, 0, 1);
        due(500, d.served(0));
        due(515, d.served(1));
        dueThrown(STATE, () -> d.served(2));
        dueThrown(INDEX, () -> d.served(3));
        dueThrown(INDEX, () -> d.served(-1));
    }

    private static void promise22() {
        Couriersday d = lineWith(2, 1, 1, 2);
        d.window(0, 495, 600, 5);
        d.window(1, 0, 1439, 0);
        due(0, d.does(0, 480));
        putAll(d, 0, 0, 1, 2);
        int[][] told = {{Integer.MIN_VALUE, 0}, {479, 0}, {480, 1}, {489, 1}, {490, 2}, {494, 2}, {495, 3}, {499, 3},
            {500, 1}, {509, 1}, {510, 1}, {529, 1}, {530, 0}, {Integer.MAX_VALUE, 0}};
        for (int[] one : told) {
            due(one[1], d.does(0, one[0]));
        }
        dueThrown(INDEX, () -> d.does(1, 480));
        dueThrown(INDEX, () -> d.does(-1, 480));
        // from the depot's minute 0 on
        // from door to door
        Couriersday f = lineWith(3, 2, 1, 3);
        f.window(1, 515, 600, 0);
        f.window(2, 0, 1439, 4);
        putAll(f, 0, 0, 1, 2);
        int[][] more = {{499, 1}, {509, 1}, {510, 2}, {514, 2}, {515, 1}, {534, 1}, {535, 3}, {538, 3}, {539, 1},
            {568, 1}, {569, 0}};
        for (int[] one : more) {
            due(one[1], f.does(0, one[0]));
        }
        Couriersday e = line(1);
        e.van(1, 0, 2000);
        e.parcel(1, 1, 0);
        e.put(0, 0, 0);
        due(0, e.does(0, -1));
        due(1, e.does(0, 0));
        due(0, e.does(0, 20));
    }

    private static void promise23() {
        Couriersday d = lineWith(3, 1, 2, 3);
        d.van(100, 480, 1200);
        dueThrown(ELEMENT, () -> d.undo());
        d.put(0, 0, 2);
        d.putIn(0);
        d.putIn(1);
        dueRound(d, 0, 0, 1, 2);
        d.turned(0, 0, 3);
        d.swapEnds(0, 1, 1, 0);
        dueRound(d, 0, 2);
        dueRound(d, 1, 1, 0);
        d.takeOut(2);
        d.savings(0);
        dueRound(d, 0, 2);
        d.better(0);
        d.exact(1);
        dueRound(d, 1, 0, 1);
        due(8, d.undo());
        dueRound(d, 1, 1, 0);
        due(7, d.undo());
        due(6, d.undo());
        dueRound(d, 0);
        due(5, d.undo());
        dueRound(d, 0, 2);
        due(4, d.undo());
        dueRound(d, 0, 2, 1, 0);
        dueRound(d, 1);
        due(3, d.undo());
        dueRound(d, 0, 0, 1, 2);
        due(2, d.undo());
        due(1, d.undo());
        dueRound(d, 0, 2);
        due(0, d.undo());
        dueRound(d, 0);
        dueThrown(ELEMENT, () -> d.undo());
        // twenty at most, the latest ones
        d.put(0, 0, 0);
        d.put(0, 1, 1);
        for (int i = 0; i < 19; i++) {
            d.turned(0, 0, 2);
        }
        for (int left = 19; left >= 0; left--) {
            due(left, d.undo());
        }
        dueRound(d, 0, 0);
        dueThrown(ELEMENT, () -> d.undo());
        // nothing ahead of a door
        d.put(0, 1, 1);
        d.put(0, 2, 2);
        d.door(2, true);
        dueThrown(ELEMENT, () -> d.undo());
        d.takeOut(1);
        due(0, d.undo());
        dueRound(d, 0, 0, 1);
        d.takeOut(1);
        dueThrown(STATE, () -> d.door(2, true));
        due(0, d.undo());
    }

    // ---- hours

    private static void promise24() {
        Couriersday d = new Couriersday();
        due(0, d.rules(30, 5, 60));
        due(30, d.mayDrive(false));
        due(60, d.mayDrive(true));
        d.piece(Couriersday.DRIVE, 20);
        d.piece(Couriersday.WORK, 1);
        dueThrown(ARGUMENT, () -> d.rules(29, 5, 60));
        dueThrown(ARGUMENT, () -> d.rules(601, 5, 60));
        dueThrown(ARGUMENT, () -> d.rules(30, 4, 60));
        dueThrown(ARGUMENT, () -> d.rules(30, 121, 60));
        dueThrown(ARGUMENT, () -> d.rules(30, 5, 59));
        dueThrown(ARGUMENT, () -> d.rules(30, 5, 901));
        due(10, d.mayDrive(false));
        due(2, d.rules(600, 120, 900));
        due(600, d.mayDrive(false));
        due(900, d.mayDrive(true));
        due(7, d.piece(Couriersday.REST, 7));
        due(1, d.rules(270, 45, 540));
        due(0, d.rules(270, 45, 540));
    }

    private static void promise25() {
        Couriersday d = new Couriersday();
        due(1, d.piece(Couriersday.DRIVE, 1));
        due(601, d.piece(Couriersday.WORK, 600));
        due(1201, d.piece(Couriersday.REST, 600));
        dueThrown(ARGUMENT, () -> d.piece(-1, 1));
        dueThrown(ARGUMENT, () -> d.piece(3, 1));
        dueThrown(ARGUMENT, () -> d.piece(0, 0));
        dueThrown(ARGUMENT, () -> d.piece(0, 601));
        // unlawful ones are taken, too
        due(1801, d.piece(Couriersday.DRIVE, 600));
        for (int i = 5; i <= 60; i++) {
            due(1801 + i - 4, d.piece(Couriersday.WORK, 1));
        }
        dueThrown(STATE, () -> d.piece(Couriersday.WORK, 1));
        dueThrown(ARGUMENT, () -> d.piece(Couriersday.WORK, 0));
        due(60, d.rules(270, 45, 540));
        due(1, d.piece(Couriersday.WORK, 1));
    }

    private static void promise26() {
        Couriersday d = new Couriersday();
        due(NONE, d.unlawful());
        d.piece(0, 270);
        due(NONE, d.unlawful());
        d.piece(1, 600);
        d.piece(2, 44);
        due(NONE, d.unlawful());
        d.piece(0, 1);
        due(3, d.unlawful());
        d.piece(2, 45);
        due(3, d.unlawful());
        // pieces of REST one behind the other are one; WORK between them parts them
        d.rules(270, 45, 540);
        d.piece(0, 270);
        d.piece(2, 20);
        d.piece(2, 25);
        d.piece(0, 270);
        due(NONE, d.unlawful());
        d.piece(2, 600);
        d.piece(0, 1);
        due(5, d.unlawful());
        d.rules(270, 45, 540);
        d.piece(0, 270);
        d.piece(2, 20);
        d.piece(1, 1);
        d.piece(2, 25);
        d.piece(0, 1);
        due(4, d.unlawful());
        d.rules(600, 45, 60);
        d.piece(0, 61);
        due(0, d.unlawful());
    }

    private static void promise27() {
        Couriersday d = new Couriersday();
        d.piece(0, 200);
        due(70, d.mayDrive(false));
        due(340, d.mayDrive(true));
        d.piece(2, 44);
        due(70, d.mayDrive(false));
        d.piece(2, 1);
        due(270, d.mayDrive(false));
        d.piece(0, 270);
        due(0, d.mayDrive(false));
        due(70, d.mayDrive(true));
        d.piece(2, 45);
        due(70, d.mayDrive(false));
        d.piece(0, 70);
        due(0, d.mayDrive(true));
        d.piece(0, 1);
        due(0, d.mayDrive(false));
        due(0, d.mayDrive(true));
        d.rules(60, 45, 540);
        d.piece(0, 61);
        due(0, d.mayDrive(true));
        due(0, d.mayDrive(false));
    }

    private static void promise28() {
        Couriersday d = new Couriersday();
        due(0, d.leastTime(0));
        due(270, d.leastTime(270));
        due(271 + 45, d.leastTime(271));
        due(540 + 45, d.leastTime(540));
        due(NONE, d.leastTime(541));
        dueThrown(ARGUMENT, () -> d.leastTime(-1));
        dueThrown(ARGUMENT, () -> d.leastTime(901));
        due(NONE, d.leastTime(900));
        d.piece(0, 200);
        due(70, d.leastTime(70));
        due(71 + 45, d.leastTime(71));
        due(340 + 45, d.leastTime(340));
        due(NONE, d.leastTime(341));
        // what lacks of a rest makes one
        d.piece(2, 40);
        due(70, d.leastTime(70));
        due(71 + 5, d.leastTime(71));
        due(270 + 5, d.leastTime(270));
        // ending the rest first needs a second one then: driving first and one rest is less
        due(271 + 45, d.leastTime(271));
        due(340 + 45, d.leastTime(340));
        d.piece(1, 1);
        due(71 + 45, d.leastTime(71));
        // nothing left without a rest
        Couriersday e = new Couriersday();
        e.rules(30, 20, 300);
        e.piece(0, 30);
        due(0, e.leastTime(0));
        due(1 + 20, e.leastTime(1));
        e.piece(2, 15);
        due(1 + 5, e.leastTime(1));
        due(30 + 5, e.leastTime(30));
        due(31 + 5 + 20, e.leastTime(31));
        due(270 + 5 + 8 * 20, e.leastTime(270));
        e.piece(2, 5);
        due(30, e.leastTime(30));
        e.piece(0, 31);
        due(NONE, e.leastTime(0));
        // a short rest ahead of all driving is no need
        Couriersday f = new Couriersday();
        f.piece(2, 44);
        due(270, f.leastTime(270));
        due(271 + 45, f.leastTime(271));
    }

    // ---- doors, zones

    private static void promise29() {
        Couriersday d = lineWith(3, 1, 2, 3, 2);
        putAll(d, 0, 0, 1, 2);
        dueThrown(INDEX, () -> d.door(4, true));
        dueThrown(INDEX, () -> d.door(-1, true));
        dueThrown(STATE, () -> d.door(3, true));
        due(1, d.door(1, true));
        dueRound(d, 0, 0, 2);
        dueThrown(STATE, () -> d.door(1, false));
        dueThrown(STATE, () -> d.put(0, 0, 1));
        // to the end of the round, twice; the third failure sends it away: there is no locker
        due(0, d.door(0, false));
        dueRound(d, 0, 2, 0);
        due(1, d.parcelAt(0, 1));
        due(0, d.door(0, false));
        dueRound(d, 0, 2, 0);
        due(3, d.door(0, false));
        dueRound(d, 0, 2);
        due(3, d.parcelAt(0, 1));
        due(NONE, d.parcelAt(0, 3));
        dueThrown(STATE, () -> d.door(0, false));
        dueThrown(STATE, () -> d.put(0, 0, 0));
        // the round would not be kept with it at its end: into the nearest locker, of several the least place
        Couriersday e = lineWith(5, 3, 3, 3, 5);
        e.locker(4, 1);
        e.locker(2, 1);
        e.locker(5, 5);
        for (int parcel = 0; parcel < 3; parcel++) {
            e.window(parcel, 0, 510, 0);
        }
        putAll(e, 0, 0, 1, 2, 3);
        due(2, e.door(0, false));
        due(2, e.parcelAt(0, 3));
        due(1, e.parcelAt(0, 1));
        due(2, e.door(1, false));
        due(4, e.parcelAt(1, 3));
        dueRound(e, 0, 2, 3);
        due(2, e.door(2, false));
        due(5, e.parcelAt(2, 3));
        dueRound(e, 0, 3);
        due(NONE, e.parcelAt(2, 2));
        // a locker at the door itself is nearest, one that can't be come to is none
        Couriersday f = new Couriersday();
        both(f, 0, 1, 5);
        f.street(2, 1, 1, 1, 0);
        f.van(10, 0, 100);
        f.parcel(1, 10, 0);
        f.parcel(1, 1, 0);
        f.locker(2, 1);
        for (int state : new int[] {0, 0, 3}) {
            if (f.parcelAt(0, 2) == NONE) {
                f.put(0, 0, 0);
            }
            due(state, f.door(0, false));
        }
        f.locker(1, 1);
        f.put(0, 0, 1);
        f.door(1, false);
        f.door(1, false);
        due(2, f.door(1, false));
        due(1, f.parcelAt(1, 3));
    }

    private static void promise30() {
        Couriersday d = new Couriersday();
        dueThrown(INDEX, () -> d.locker(16, 0));
        dueThrown(INDEX, () -> d.locker(-1, 1));
        dueThrown(ARGUMENT, () -> d.locker(0, 1));
        dueThrown(ARGUMENT, () -> d.locker(1, 0));
        dueThrown(ARGUMENT, () -> d.locker(1, 6));
        for (int place = 15; place >= 1; place--) {
            due(16 - place, d.locker(place, place % 5 + 1));
        }
        dueThrown(STATE, () -> d.locker(1, 1));
        dueThrown(STATE, () -> d.locker(15, 5));
        dueThrown(ARGUMENT, () -> d.locker(15, 6));
        // five parcels have five slots, the sixth one none
        Couriersday e = lineWith(1, 1, 1, 1, 1, 1, 1);
        e.locker(1, 5);
        for (int parcel = 0; parcel < 6; parcel++) {
            e.put(0, 0, parcel);
            e.door(parcel, false);
            e.door(parcel, false);
            due(parcel < 5 ? 2 : 3, e.door(parcel, false));
        }
    }

    private static void promise31() {
        Couriersday d = lineWith(2, 1, 2);
        d.parcel(2, 77, 2);
        d.van(100, 480, 1200);
        d.put(1, 0, 2);
        int[] told = {0, 0, 1, NONE, 2, 77, 2};
        for (int what = 0; what <= 6; what++) {
            due(told[what], d.parcelAt(2, what));
        }
        due(NONE, d.parcelAt(0, 2));
        d.locker(1, 1);
        d.door(2, false);
        due(1, d.parcelAt(2, 1));
        due(1, d.parcelAt(2, 2));
        d.door(2, false);
        d.door(2, false);
        due(2, d.parcelAt(2, 0));
        due(3, d.parcelAt(2, 1));
        due(NONE, d.parcelAt(2, 2));
        due(1, d.parcelAt(2, 3));
        dueThrown(INDEX, () -> d.parcelAt(3, 7));
        dueThrown(INDEX, () -> d.parcelAt(-1, 0));
        dueThrown(ARGUMENT, () -> d.parcelAt(0, 7));
        dueThrown(ARGUMENT, () -> d.parcelAt(0, -1));
    }

    private static void promise32() {
        Couriersday d = new Couriersday();
        due(0, d.setZone(1, 2));
        due(2, d.setZone(1, 1));
        due(0, d.setZone(15, 0));
        due(1, d.zone(false, 1));
        dueThrown(INDEX, () -> d.setZone(16, 3));
        dueThrown(INDEX, () -> d.setZone(-1, 0));
        dueThrown(ARGUMENT, () -> d.setZone(0, 0));
        dueThrown(ARGUMENT, () -> d.setZone(1, -1));
        dueThrown(ARGUMENT, () -> d.setZone(1, 3));
        due(1, d.zone(false, 1));
    }

    private static void promise33() {
        // zone 0 has 30 at 1 and 20 at 2, zone 2 has 4; the street from 2 leads into zone 2, that of 1 out of it
        Couriersday d = new Couriersday();
        d.street(2, 4, 1, 1, 0);
        d.street(3, 1, 1, 1, 0);
        d.setZone(3, 2);
        d.setZone(4, 2);
        d.setZone(5, 1);
        d.parcel(1, 30, 0);
        d.parcel(2, 20, 0);
        d.parcel(5, 25, 0);
        d.parcel(3, 4, 0);
        // going over: 1 makes 20 25 34, spread 14; 2 makes 30 25 24, spread 6
        due(1, d.balance());
        due(2, d.zone(false, 2));
        due(0, d.zone(false, 1));
        due(0, d.balance());
        // no street to a place of the zone with the least load, and none at all of an empty zone
        Couriersday e = new Couriersday();
        e.parcel(1, 50, 0);
        due(0, e.balance());
        e.street(1, 2, 1, 1, 0);
        e.street(0, 1, 1, 1, 0);
        due(0, e.balance());
        e.setZone(2, 1);
        due(0, e.balance());
        // 50 0 0: going over would leave the spread as it is
        e.setZone(2, 2);
        due(0, e.balance());
        e.parcel(1, 50, 0);
        e.parcel(2, 1, 0);
        due(0, e.balance());
        // of several the least place; then the zone that is bare next: the greatest one
        Couriersday f = line(6);
        for (int place = 1; place <= 6; place++) {
            f.parcel(place, 10, 0);
        }
        f.setZone(5, 2);
        f.setZone(6, 1);
        // 40 10 10: least is zone 2 (5), joined by 4: 30 10 20; then least is 1 (6): no place of zone 0 touches it
        due(1, f.balance());
        due(2, f.zone(false, 4));
        // 40 10 10 once more: 3 and 5 touch 4 of zone 2, the least place goes; then 5 touches 6 of zone 1
        f.setZone(5, 0);
        due(2, f.balance());
        due(2, f.zone(false, 3));
        due(1, f.zone(false, 5));
        for (int zone = 0; zone <= 2; zone++) {
            due(20, f.zone(true, zone));
        }
        // zone 1 with the greatest load, zone 0 with the least: only these two count
        Couriersday g = line(4);
        g.parcel(2, 9, 0);
        g.parcel(3, 20, 0);
        g.parcel(4, 18, 0);
        g.parcel(4, 2, 0);
        g.setZone(2, 1);
        g.setZone(3, 1);
        g.setZone(4, 2);
        // 0 29 20: the 2 touches the 1 of zone 0: 9 20 20, spread 11 of 29; then zone 1 has the greatest load still
        due(1, g.balance());
        due(0, g.zone(false, 2));
        due(9, g.zone(true, 0));
        due(20, g.zone(true, 1));
        due(20, g.zone(true, 2));
        // zone 2 with the greatest load, zone 1 with the least
        Couriersday h = line(3);
        h.parcel(1, 5, 0);
        h.parcel(2, 5, 0);
        h.parcel(3, 1, 0);
        h.setZone(1, 2);
        h.setZone(2, 2);
        h.setZone(3, 1);
        h.setZone(4, 0);
        h.parcel(4, 3, 0);
        // 3 1 10: 2 goes over: 3 6 5; then 1 is the greatest, 0 the least: no street joins them
        due(1, h.balance());
        due(1, h.zone(false, 2));
        // at the same spread the least place, be it lighter or not: 6 and 4 of 10 against 0 make 6 4 either way
        Couriersday k = line(2);
        k.street(1, 3, 1, 1, 0);
        k.street(3, 2, 1, 1, 0);
        k.parcel(1, 6, 0);
        k.parcel(2, 4, 0);
        k.setZone(3, 2);
        k.setZone(4, 1);
        k.parcel(4, 5, 0);
        due(1, k.balance());
        due(2, k.zone(false, 1));
        due(0, k.zone(false, 2));
    }

    private static void promise34() {
        Couriersday d = lineWith(3, 1, 2, 2, 3);
        due(40, d.zone(true, 0));
        d.setZone(2, 1);
        due(20, d.zone(true, 0));
        due(20, d.zone(true, 1));
        due(0, d.zone(true, 2));
        // in a round it waits, delivered it does not
        d.put(0, 0, 1);
        due(20, d.zone(true, 1));
        d.door(1, true);
        due(10, d.zone(true, 1));
        due(1, d.zone(false, 2));
        due(0, d.zone(false, 15));
        dueThrown(INDEX, () -> d.zone(true, 3));
        dueThrown(INDEX, () -> d.zone(true, -1));
        dueThrown(INDEX, () -> d.zone(false, 0));
        dueThrown(INDEX, () -> d.zone(false, 16));
        dueThrown(INDEX, () -> d.zone(false, -1));
    }

    // ---- shares

    private static Couriersday threeSenders() {
        Couriersday d = line(3);
        d.van(30, 480, 1200);
        d.parcel(1, 10, 0);
        d.parcel(2, 10, 1);
        d.parcel(3, 10, 2);
        return d;
    }

    private static void promise35() {
        Couriersday e = new Couriersday();
        dueThrown(STATE, () -> e.together(0));
        dueThrown(ARGUMENT, () -> e.together(-1));
        dueThrown(ARGUMENT, () -> e.together(8));
        e.van(5, 0, 2000);
        due(0, e.together(7));
        Couriersday d = threeSenders();
        int[] told = {0, 20, 40, 40, 60, 60, 60, 60};
        for (int set = 0; set <= 7; set++) {
            due(told[set], d.together(set));
        }
        // in a round of another van they cost the same; delivered ones cost nothing
        d.van(900, 0, 2000);
        d.put(1, 0, 2);
        due(60, d.together(7));
        d.door(2, true);
        due(40, d.together(7));
        due(0, d.together(4));
        // the van 0 has room for 30
        d.parcel(1, 11, 2);
        dueThrown(ELEMENT, () -> d.together(7));
        due(20, d.together(4));
        due(0, d.roundAt(0, NONE));
    }

    private static void promise36() {
        Couriersday e = new Couriersday();
        dueThrown(INDEX, () -> e.share(3));
        dueThrown(INDEX, () -> e.share(-1));
        dueThrown(STATE, () -> e.share(0));
        Couriersday d = threeSenders();
        // as on an airfield: 20 by three, the next 20 by two, the last 20 alone
        due(40, d.share(0));
        due(100, d.share(1));
        due(220, d.share(2));
        d.parcel(15, 1, 0);
        dueThrown(ELEMENT, () -> d.share(2));
        e.van(1, 0, 0);
        due(0, e.share(1));
        // the door at 2 is on the way of no one: each order tells it
        Couriersday f = new Couriersday();
        both(f, 0, 1, 10);
        both(f, 0, 2, 7);
        both(f, 1, 3, 5);
        f.van(100, 0, 2000);
        f.parcel(1, 1, 0);
        f.parcel(2, 1, 1);
        f.parcel(3, 1, 2);
        due(6 * 10, f.share(0));
        due(6 * 14, f.share(1));
        due(6 * 20, f.share(2));
    }

    /**
     * Three doors ten minutes from the depot and one from each other. One sender has a window from 70 on, one a
     * service of 59 that fills the time up to it, one a service that is told: it costs nothing behind one of the
     * others, but much behind both.
     */
    private static Couriersday crowded(int first, int second, int third, int service) {
        Couriersday d = new Couriersday();
        for (int place = 1; place <= 3; place++) {
            both(d, 0, place, 10);
            both(d, place, place % 3 + 1, 1);
        }
        d.van(100, 0, 2000);
        d.parcel(1, 1, first);
        d.parcel(2, 1, second);
        d.parcel(3, 1, third);
        d.window(0, 70, 1439, 0);
        d.window(1, 0, 1439, 59);
        d.window(2, 0, 1439, service);
        return d;
    }

    private static void promise37() {
        Couriersday e = new Couriersday();
        dueThrown(STATE, () -> e.blocks());
        e.van(1, 0, 0);
        due(0, e.blocks());
        Couriersday d = threeSenders();
        due(0, d.blocks());
        d.parcel(15, 1, 0);
        dueThrown(ELEMENT, () -> d.blocks());
        Couriersday f = crowded(0, 1, 2, 38);
        int[] told = {0, 80, 79, 80, 58, 80, 118, 119};
        for (int set = 0; set <= 7; set++) {
            due(told[set], f.together(set));
        }
        due(160 + 1 + 22 + 2, f.share(0));
        due(158 + 0 + 60 + 78, f.share(1));
        due(116 + 0 + 39 + 78, f.share(2));
        // the shares of the first two are 481 sixths, they cost 480 sixths together
        due(1 << 3, f.blocks());
        due(1 << 5, crowded(0, 2, 1, 38).blocks());
        due(1 << 6, crowded(2, 1, 0, 38).blocks());
        // as much as they cost is not more
        Couriersday g = crowded(0, 1, 2, 37);
        due(480, g.share(0) + g.share(1));
        due(80, g.together(3));
        due(0, g.blocks());
        // one alone blocks if the others make him dear: the sender 0 near the depot, the sender 1 with two far doors
        Couriersday h = new Couriersday();
        both(h, 0, 1, 20);
        both(h, 0, 2, 1);
        h.van(100, 0, 2000);
        h.parcel(2, 1, 0);
        h.parcel(1, 1, 1);
        h.parcel(1, 1, 1);
        h.window(0, 0, 45, 0);
        h.window(1, 20, 20, 0);
        h.window(2, 20, 65, 30);
        due(2, h.together(1));
        due(70, h.together(2));
        due(112, h.together(3));
        due(132, h.share(0));
        due(540, h.share(1));
        due(0, h.share(2));
        due(1 << 1 | 1 << 2 | 1 << 5 | 1 << 6, h.blocks());
    }

    // ---- pay

    private static void promise38() {
        Couriersday d = new Couriersday();
        due(100, d.rates(0, 9999));
        due(0, d.rates(9999, 0));
        due(9999, d.rates(1, 1));
        dueThrown(ARGUMENT, () -> d.rates(-1, 0));
        dueThrown(ARGUMENT, () -> d.rates(10000, 0));
        dueThrown(ARGUMENT, () -> d.rates(0, -1));
        dueThrown(ARGUMENT, () -> d.rates(0, 10000));
        due(1, d.rates(1, 1));
    }

    private static void promise39() {
        Couriersday d = lineWith(1, 1, 1, 1);
        due(0, d.pay(0, 0));
        due(50, d.pay(1000, 0));
        // 50 cents for 1000 meters: 10 meters are half a cent, rounded up
        due(1, d.pay(10, 0));
        due(0, d.pay(9, 0));
        due(1, d.pay(29, 0));
        due(2, d.pay(30, 0));
        putAll(d, 0, 0, 1, 2);
        d.door(0, true);
        d.door(1, true);
        d.door(2, false);
        due(200 + 50 + 7, d.pay(1000, 7));
        due(0, d.pay(0, 0));
        d.rates(9999, 9999);
        d.door(2, true);
        due(9999L + 89991000L + 99999L, d.pay(9000000, 99999));
        dueThrown(ARGUMENT, () -> d.pay(-1, 0));
        dueThrown(ARGUMENT, () -> d.pay(9000001, 0));
        dueThrown(ARGUMENT, () -> d.pay(0, -1));
        dueThrown(ARGUMENT, () -> d.pay(0, 100000));
        for (int i = 10; i <= 50; i++) {
            due(i, d.pay(0, i));
        }
        dueThrown(STATE, () -> d.pay(0, 0));
        dueThrown(ARGUMENT, () -> d.pay(0, -1));
        // 9999 by 9999: 99980.001 thousands
        Couriersday e = new Couriersday();
        e.rates(0, 9999);
        due(99980, e.pay(9999, 0));
        due(12499, e.pay(1250, 0));
        e.rates(0, 1);
        due(0, e.pay(499, 0));
        due(1, e.pay(500, 0));
    }

    private static void promise40() {
        Couriersday d = new Couriersday();
        due(0, d.books(NONE));
        dueThrown(ELEMENT, () -> d.books(0));
        d.pay(1000, 5);
        d.pay(0, 99999);
        due(55, d.books(0));
        due(99999, d.books(1));
        due(100054, d.books(NONE));
        dueThrown(ELEMENT, () -> d.books(2));
        dueThrown(ELEMENT, () -> d.books(-2));
        // above what an int holds
        d.rates(0, 9999);
        long sum = 100054;
        for (int i = 0; i < 40; i++) {
            sum += d.pay(9000000, 0);
        }
        due(sum, d.books(NONE));
        due(89991000L * 40 + 100054, sum);
    }

    // ---- measures

    private static void promise41() {
        Couriersday d = new Couriersday();
        check(d.meanPay() == 0.0, "meanPay() without payments is " + d.meanPay());
        d.pay(0, 1);
        check(d.meanPay() == 1.0, "meanPay() is " + d.meanPay());
        d.pay(0, 2);
        d.pay(0, 2);
        check(d.meanPay() == 5.0 / 3.0, "meanPay() is " + d.meanPay());
        due(3, Math.round(d.meanPay() * 2));
    }

    private static void promise42() {
        Couriersday d = lineWith(1, 1, 1);
        d.van(30, 480, 1200);
        check(d.filled(0) == 0.0f, "filled(0) is " + d.filled(0));
        d.put(0, 0, 0);
        check(d.filled(0) == 10f / 100f, "filled(0) is " + d.filled(0));
        d.put(1, 0, 1);
        check(d.filled(1) == 10f / 30f, "filled(1) is " + d.filled(1));
        dueThrown(INDEX, () -> d.filled(2));
        dueThrown(INDEX, () -> d.filled(-1));
        Couriersday e = new Couriersday();
        dueThrown(INDEX, () -> e.filled(0));
    }

    private static void promise43() {
        due(0, new Couriersday().errors());
        Couriersday d = threeSenders();
        due(0, d.errors());
        d.van(100, 480, 1200);
        putAll(d, 1, 2, 0, 1);
        d.piece(0, 200);
        d.piece(2, 20);
        d.pay(12345, 67);
        due(0, d.errors());
        d.piece(0, 71);
        due(0, d.errors());
        d.door(2, false);
        d.parcel(15, 1, 0);
        due(0, d.errors());
        // ways that don't take the same both ways
        Couriersday e = new Couriersday();
        e.street(0, 1, 100, 1, 0);
        e.street(1, 2, 1, 1, 0);
        e.street(2, 0, 1, 1, 0);
        e.van(10, 0, 2000);
        e.parcel(1, 1, 0);
        e.parcel(2, 1, 0);
        putAll(e, 0, 1, 0);
        due(0, e.errors());
        due(0, e.rules(600, 5, 60));
        e.piece(0, 60);
        due(0, e.errors());
        // it changes nothing
        dueRound(e, 0, 1, 0);
        due(1, e.undo());
    }
}
