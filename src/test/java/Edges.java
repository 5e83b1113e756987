import java.lang.reflect.InvocationTargetException;
import java.lang.reflect.Method;
import java.util.Arrays;
import java.util.Comparator;
import java.util.NoSuchElementException;

/**
 * What the tests of edges share: due answers, and refused calls. A refused call is made on one of two days that were
 * told the same; behind it both must answer the same to all that can be asked.
 */
class Edges {
    static final int NONE = Couriersday.NONE;
    static final int DRIVE = Couriersday.DRIVE, WORK = Couriersday.WORK, REST = Couriersday.REST;
    static final int MIN = Integer.MIN_VALUE, MAX = Integer.MAX_VALUE;
    static final Class<?> INDEX = IndexOutOfBoundsException.class;
    static final Class<?> ARGUMENT = IllegalArgumentException.class;
    static final Class<?> STATE = IllegalStateException.class;
    static final Class<?> ELEMENT = NoSuchElementException.class;
    private static final int FACETS = 7;
    private static int wrong = 0;
    private static int checks = 0;
    private static String edge = "";

    interface Told {
        void on(Couriersday d);
    }

    interface Call {
        Object on(Couriersday d);
    }

    interface NumberCall {
        Object on(Couriersday d, int number);
    }

    /** Runs each method whose name begins with p and the number of a promise. */
    static void run(Class<?> tests) {
        Method[] all = tests.getDeclaredMethods();
        Arrays.sort(all, Comparator.comparing(Method::getName));
        int edges = 0;
        for (Method one : all) {
            if (one.getName().matches("p\\d+\\w*") && one.getParameterCount() == 0) {
                edge = one.getName();
                edges++;
                invoke(one);
            }
        }
        System.out.println(tests.getSimpleName() + ": " + edges + " edges, " + checks + " checks, " + wrong + " wrong");
        if (wrong != 0 || edges == 0) {
            System.exit(1);
        }
    }

    private static void invoke(Method one) {
        try {
            one.invoke(null);
        } catch (InvocationTargetException e) {
            check(false, "threw " + e.getCause());
        } catch (IllegalAccessException e) {
            check(false, "can't be run: " + e);
        }
    }

    static void check(boolean isGood, String told) {
        checks++;
        if (!isGood) {
            wrong++;
            System.out.println(edge + ", line " + lineOfEdge() + ": " + told);
        }
    }

    private static int lineOfEdge() {
        return StackWalker.getInstance().walk(s -> s.filter(f -> f.getMethodName().equals(edge)).findFirst()
                .map(StackWalker.StackFrame::getLineNumber).orElse(0));
    }

    static void due(long want, long got) {
        check(want == got, "answered " + got + ", due is " + want);
    }

    static void dueRound(Couriersday d, int van, int... parcels) {
        int[] got = new int[d.roundAt(van, NONE)];
        for (int i = 0; i < got.length; i++) {
            got[i] = d.roundAt(van, i);
        }
        check(Arrays.equals(got, parcels), "the round is " + Arrays.toString(got) + ", due is "
                + Arrays.toString(parcels));
    }

    static Couriersday day(Told told) {
        Couriersday d = new Couriersday();
        told.on(d);
        return d;
    }

    static String answer(Couriersday d, Call call) {
        try {
            return String.valueOf(call.on(d));
        } catch (RuntimeException e) {
            return e.getClass().getSimpleName();
        }
    }

    /** On a day told so, the call throws just this, and nothing has changed behind it. */
    static void refused(Class<?> kind, Told told, Call call) {
        refusedFor(kind, told, (d, number) -> call.on(d), 0);
    }

    static void refusedFor(Class<?> kind, Told told, NumberCall call, int... numbers) {
        for (int number : numbers) {
            String got = answer(day(told), d -> call.on(d, number));
            check(got.equals(kind.getSimpleName()), "for " + number + " answered " + got + ", due is "
                    + kind.getSimpleName());
            same(told, d -> call.on(d, number), "for " + number);
        }
    }

    /** On a day told so, the call answers, and nothing has changed behind it. */
    static void asked(Told told, Call call) {
        String got = answer(day(told), call);
        check(!got.endsWith("Exception"), "threw " + got);
        same(told, call, "asking");
    }

    private static void same(Told told, Call call, String which) {
        for (int facet = 0; facet < FACETS; facet++) {
            Couriersday d = day(told);
            answer(d, call);
            String got = facet(facet, d);
            String due = facet(facet, day(told));
            check(got.equals(due), which + " changed what is told of facet " + facet + ":\n    " + got + "\n    " + due);
        }
    }

    // ---- days to begin with

    static void both(Couriersday d, int place, int other, int minutes) {
        d.street(place, other, minutes, minutes * 100, 0);
        d.street(other, place, minutes, minutes * 100, 0);
    }

    /** The depot, then places 1 to the last one in a line, ten minutes each, both ways. */
    static Couriersday line(int last) {
        Couriersday d = new Couriersday();
        for (int place = 0; place < last; place++) {
            both(d, place, place + 1, 10);
        }
        return d;
    }

    /** A line with a van from 480 to 1200 with room for 100, and a parcel of size 10 at each place told. */
    static Couriersday lineWith(int last, int... places) {
        Couriersday d = line(last);
        d.van(100, 480, 1200);
        for (int place : places) {
            d.parcel(place, 10, 0);
        }
        return d;
    }

    static void putAll(Couriersday d, int van, int... parcels) {
        for (int i = 0; i < parcels.length; i++) {
            d.put(van, i, parcels[i]);
        }
    }

    static void nothing(Couriersday d) {
    }

    /**
     * Some of all there is, but no parcel in a round: the parcels 0 to 3 are WAITING, 4 and 5 DELIVERED, 4 is paid, 6 is
     * in a locker, 7 BACK; two vans; five changes can be undone.
     */
    static void idle(Couriersday d) {
        for (int place = 0; place < 5; place++) {
            d.street(place, place + 1, 10, 100 + place, place);
            d.street(place + 1, place, 10, 200 + place, 5);
        }
        d.street(0, 3, 25, 777, 9);
        d.street(6, 0, 5, 50, 1);
        d.factor(8, 150);
        d.factor(9, 50);
        for (int parcel = 0; parcel < 8; parcel++) {
            d.parcel(parcel % 5 + 1, 10 + parcel, parcel % 3);
        }
        d.window(0, 495, 600, 5);
        d.window(2, 0, 560, 7);
        d.window(3, 540, 545, 1);
        d.van(100, 480, 900);
        d.van(60, 500, 1000);
        d.rates(120, 70);
        deliver(d, 4);
        d.pay(2500, 33);
        deliver(d, 5);
        sendAway(d, 7);
        d.locker(2, 1);
        d.locker(4, 2);
        sendAway(d, 6);
        d.setZone(2, 2);
        d.setZone(3, 1);
        d.rules(200, 30, 500);
        d.piece(DRIVE, 100);
        d.piece(WORK, 20);
        d.piece(REST, 10);
        d.piece(REST, 15);
        d.put(0, 0, 0);
        d.put(0, 1, 1);
        d.turned(0, 0, 2);
        d.takeOut(0);
        d.takeOut(1);
    }

    /** The idle day with rounds: 0 and 2 in that of the van 0, 1 in that of the van 1. */
    static void busy(Couriersday d) {
        idle(d);
        d.put(0, 0, 2);
        d.put(1, 0, 1);
        d.putIn(0);
        d.turned(0, 0, 2);
        d.turned(0, 0, 2);
    }

    static void deliver(Couriersday d, int parcel) {
        d.put(0, 0, parcel);
        d.door(parcel, true);
    }

    /** Fails at the door until the parcel leaves its round. */
    static void sendAway(Couriersday d, int parcel) {
        d.put(0, 0, parcel);
        while (d.parcelAt(parcel, 2) != NONE) {
            d.door(parcel, false);
        }
    }

    // ---- all that can be asked, in parts, so that no day is used for more than 512 calls

    private static String facet(int facet, Couriersday d) {
        StringBuilder into = new StringBuilder();
        switch (facet) {
            case 0 -> tellWays(d, into);
            case 1 -> tellStreets(d, into);
            case 2 -> tellParcels(d, into);
            case 3 -> tellChanges(d, into);
            case 4 -> tellWindows(d, into);
            case 5 -> tellHours(d, into);
            default -> tellRest(d, into);
        }
        return into.toString();
    }

    private static void tell(Couriersday d, StringBuilder into, Call call) {
        into.append(answer(d, call)).append(' ');
    }

    private static void tellWays(Couriersday d, StringBuilder into) {
        for (int from = 0; from < 16; from++) {
            for (int to = 0; to < 16; to++) {
                int start = from;
                int goal = to;
                tell(d, into, x -> x.way(start, goal, 0));
            }
        }
    }

    private static void tellStreets(Couriersday d, StringBuilder into) {
        for (int way = 0; way < 36; way++) {
            int from = way / 6;
            int to = way % 6;
            tell(d, into, x -> x.way(from, to, 1));
            tell(d, into, x -> x.way(from, to, 2));
        }
        for (int minute = 400; minute < 700; minute += 19) {
            int start = minute;
            tell(d, into, x -> x.arrival(0, 3, start));
        }
        for (int hour = 0; hour < 24; hour++) {
            int one = hour;
            tell(d, into, x -> x.factor(one, 100));
        }
        tell(d, into, x -> x.arrival(0, 3, 1439));
        takeAllOut(d, into);
        tell(d, into, x -> x.street(14, 15, 1, 1, 0));
    }

    private static void takeAllOut(Couriersday d, StringBuilder into) {
        for (int parcel = 0; parcel < 9; parcel++) {
            int one = parcel;
            tell(d, into, x -> x.takeOut(one));
        }
    }

    private static void tellParcels(Couriersday d, StringBuilder into) {
        for (int parcel = 0; parcel < 10; parcel++) {
            int one = parcel;
            for (int what = 0; what <= 6; what++) {
                int asked = what;
                tell(d, into, x -> x.parcelAt(one, asked));
            }
            tell(d, into, x -> x.served(one));
            tell(d, into, x -> x.putInCost(one));
        }
        for (int van = 0; van < 4; van++) {
            int one = van;
            tellRound(d, into, van);
            for (int what = 0; what <= 8; what++) {
                int asked = what;
                tell(d, into, x -> x.ofRound(one, asked));
            }
            for (int minute = 479; minute < 600; minute += 13) {
                int asked = minute;
                tell(d, into, x -> x.does(one, asked));
            }
            tell(d, into, x -> x.filled(one));
        }
        for (int number = 0; number < 16; number++) {
            int one = number;
            tell(d, into, x -> x.zone(false, one));
            tell(d, into, x -> x.zone(true, one));
        }
    }

    private static void tellRound(Couriersday d, StringBuilder into, int van) {
        tell(d, into, x -> x.roundAt(van, NONE));
        for (int index = 0; index < 9 && !into.toString().endsWith("Exception "); index++) {
            int one = index;
            tell(d, into, x -> x.roundAt(van, one));
        }
    }

    private static void tellChanges(Couriersday d, StringBuilder into) {
        for (int step = 0; step < 22; step++) {
            for (int van = 0; van < 3; van++) {
                tellRound(d, into, van);
            }
            tell(d, into, x -> x.undo());
        }
    }

    /** Windows and vans show by rounds of one parcel each. */
    private static void tellWindows(Couriersday d, StringBuilder into) {
        takeAllOut(d, into);
        tell(d, into, x -> x.parcel(1, 100, 2));
        tell(d, into, x -> x.van(100, 520, 2000));
        for (int parcel = 0; parcel < 9; parcel++) {
            int one = parcel;
            for (int van = 0; van < 3; van++) {
                int its = van;
                tell(d, into, x -> x.put(its, 0, one));
                tell(d, into, x -> x.served(one));
                tell(d, into, x -> x.takeOut(one));
            }
            tell(d, into, x -> x.window(one, 0, 1439, 0));
        }
    }

    private static void tellHours(Couriersday d, StringBuilder into) {
        for (int step = 0; step < 3; step++) {
            tell(d, into, x -> x.unlawful());
            tell(d, into, x -> x.mayDrive(true));
            tell(d, into, x -> x.mayDrive(false));
            for (int minutes = 0; minutes <= 900; minutes += 20) {
                int one = minutes;
                tell(d, into, x -> x.leastTime(one));
            }
            int kind = step == 0 ? REST : DRIVE;
            tell(d, into, x -> x.piece(kind, 3));
        }
        tell(d, into, x -> x.rules(270, 45, 540));
    }

    private static void tellRest(Couriersday d, StringBuilder into) {
        for (int index = -1; index <= 50; index++) {
            int one = index;
            tell(d, into, x -> x.books(one));
        }
        tell(d, into, x -> x.meanPay());
        for (int set = 0; set < 8; set++) {
            int one = set;
            tell(d, into, x -> x.together(one));
            tell(d, into, x -> x.share(one));
        }
        tell(d, into, x -> x.blocks());
        tell(d, into, x -> x.errors());
        tell(d, into, x -> x.pay(10000, 1));
        tell(d, into, x -> x.rates(0, 0));
        tell(d, into, x -> x.balance());
        for (int parcel = 0; parcel < 9; parcel++) {
            int one = parcel;
            tell(d, into, x -> x.put(0, 0, one));
            for (int step = 0; step < 3; step++) {
                tell(d, into, x -> x.door(one, false));
            }
            tell(d, into, x -> x.parcelAt(one, 3));
        }
        for (int place = 1; place < 16; place++) {
            int one = place;
            tell(d, into, x -> x.locker(one, 1));
        }
    }
}
