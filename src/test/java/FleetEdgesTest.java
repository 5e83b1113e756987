/** The edges of promises 7 to 9: parcels, their windows, and vans. */
public final class FleetEdgesTest extends Edges {
    public static void main(String[] args) {
        run(FleetEdgesTest.class);
    }

    private static void fullParcels(Couriersday d) {
        busy(d);
        d.parcel(15, 100, 2);
    }

    private static void fullVans(Couriersday d) {
        busy(d);
        d.van(900, 1439, 2000);
    }

    /** A street of so many minutes to the place 1 and back, and a van with room for 100. */
    private static Couriersday street(int minutes, int begins, int back) {
        return day(d -> {
            both(d, 0, 1, minutes);
            d.van(100, begins, back);
        });
    }

    // ---- 7: parcel

    static void p7ThePlaceIsThere() {
        refusedFor(INDEX, Edges::busy, (d, n) -> d.parcel(n, 10, 0), MIN, -1, 16, MAX);
        Couriersday d = new Couriersday();
        due(0, d.parcel(1, 10, 0));
        due(1, d.parcel(15, 10, 0));
        due(1, d.parcelAt(0, 4));
        due(15, d.parcelAt(1, 4));
    }

    static void p7ThePlaceIsNotTheDepot() {
        refused(ARGUMENT, Edges::busy, d -> d.parcel(0, 10, 0));
        refused(ARGUMENT, Edges::nothing, d -> d.parcel(0, 10, 0));
    }

    static void p7SizeFrom1To100() {
        refusedFor(ARGUMENT, Edges::busy, (d, n) -> d.parcel(1, n, 0), MIN, -1, 0, 101, MAX);
        Couriersday d = new Couriersday();
        due(0, d.parcel(1, 1, 0));
        due(1, d.parcel(1, 100, 0));
        due(1, d.parcelAt(0, 5));
        due(100, d.parcelAt(1, 5));
    }

    static void p7SendersFrom0To2() {
        refusedFor(INDEX, Edges::busy, (d, n) -> d.parcel(1, 10, n), MIN, -1, 3, MAX);
        Couriersday d = new Couriersday();
        due(0, d.parcel(1, 10, 0));
        due(1, d.parcel(1, 10, 2));
        due(0, d.parcelAt(0, 6));
        due(2, d.parcelAt(1, 6));
    }

    static void p7AtMost9NumberedFrom0() {
        Couriersday d = new Couriersday();
        for (int number = 0; number < 9; number++) {
            check(answer(d, x -> x.parcelAt(x.parcel(1, 1, 0), 0)).equals("0"), "it is not there");
        }
        Couriersday e = new Couriersday();
        for (int number = 0; number < 9; number++) {
            due(number, e.parcel(15 - number, 100 - number, number % 3));
        }
        due(7, e.parcelAt(8, 4));
        due(92, e.parcelAt(8, 5));
        due(2, e.parcelAt(8, 6));
        refused(STATE, FleetEdgesTest::fullParcels, x -> x.parcel(1, 10, 0));
        // those that are delivered, sent away or in rounds count as the others do
        Couriersday f = day(Edges::busy);
        due(8, f.parcel(1, 1, 0));
        check(answer(f, x -> x.parcel(1, 1, 0)).equals("IllegalStateException"), "there is a tenth parcel");
    }

    static void p7TheExceptionListedFirst() {
        Told full = FleetEdgesTest::fullParcels;
        refused(INDEX, full, d -> d.parcel(16, 0, 0));
        refused(INDEX, full, d -> d.parcel(0, 0, 3));
        refused(INDEX, full, d -> d.parcel(0, 101, -1));
        refused(ARGUMENT, full, d -> d.parcel(0, 1, 0));
        refused(ARGUMENT, full, d -> d.parcel(1, 101, 0));
        refused(ARGUMENT, full, d -> d.parcel(1, 0, 0));
    }

    static void p7ItsWindowIsTheWholeDay() {
        // at the minute 1 it need not wait, at 1439 it is not late, at 1440 it is
        Couriersday d = street(1, 0, 2000);
        d.parcel(1, 1, 0);
        due(2, d.put(0, 0, 0));
        due(1, d.served(0));
        Couriersday e = street(1, 1438, 2000);
        e.parcel(1, 1, 0);
        due(2, e.put(0, 0, 0));
        due(1439, e.served(0));
        refused(STATE, x -> {
            both(x, 0, 1, 1);
            x.van(100, 1439, 2000);
            x.parcel(1, 1, 0);
        }, x -> x.put(0, 0, 0));
    }

    static void p7ItsServiceIs0() {
        Couriersday d = street(10, 480, 500);
        d.parcel(1, 1, 0);
        due(20, d.put(0, 0, 0));
        d.takeOut(0);
        due(0, d.window(0, 0, 1439, 0));
        due(0, day(x -> x.parcel(15, 1, 0)).window(0, 0, 1439, 60));
    }

    static void p7ItWaitsInNoRoundWithoutFailures() {
        Couriersday d = day(x -> x.parcel(3, 4, 1));
        int[] told = {0, 0, NONE, NONE, 3, 4, 1};
        for (int what = 0; what <= 6; what++) {
            due(told[what], d.parcelAt(0, what));
        }
    }

    // ---- 8: window

    static void p8TheParcelIsThere() {
        refusedFor(INDEX, Edges::busy, (d, n) -> d.window(n, 0, 0, 0), MIN, -1, 8, 9, MAX);
        refused(INDEX, Edges::nothing, d -> d.window(0, 0, 0, 0));
        Couriersday d = new Couriersday();
        for (int parcel = 0; parcel < 9; parcel++) {
            d.parcel(1, 1, 0);
        }
        due(0, d.window(0, 0, 0, 1));
        due(0, d.window(8, 0, 0, 2));
        due(1, d.window(0, 0, 0, 0));
        due(2, d.window(8, 0, 0, 0));
    }

    static void p8FromIs0To1439() {
        refusedFor(ARGUMENT, Edges::idle, (d, n) -> d.window(3, n, 1439, 0), MIN, -1, 1440, MAX);
        Couriersday d = street(1, 0, 2000);
        d.parcel(1, 1, 0);
        due(0, d.window(0, 0, 1439, 0));
        due(2, d.put(0, 0, 0));
        d.takeOut(0);
        due(0, d.window(0, 1439, 1439, 0));
        due(1440, d.put(0, 0, 0));
        due(1439, d.served(0));
    }

    static void p8ToIsFromTo1439() {
        refusedFor(ARGUMENT, Edges::idle, (d, n) -> d.window(3, 500, n, 0), MIN, -1, 0, 499, 1440, MAX);
        refused(ARGUMENT, Edges::idle, d -> d.window(3, 1439, 1438, 0));
        refused(ARGUMENT, Edges::idle, d -> d.window(3, 1, 0, 0));
        Couriersday d = street(10, 490, 2000);
        d.parcel(1, 1, 0);
        due(0, d.window(0, 500, 500, 0));
        due(20, d.put(0, 0, 0));
        d.takeOut(0);
        due(0, d.window(0, 500, 1439, 0));
        due(0, d.window(0, 0, 0, 0));
    }

    static void p8ServiceFrom0To60() {
        refusedFor(ARGUMENT, Edges::idle, (d, n) -> d.window(3, 0, 1439, n), MIN, -1, 61, MAX);
        Couriersday d = street(10, 480, 560);
        d.parcel(1, 1, 0);
        due(0, d.window(0, 0, 1439, 60));
        due(80, d.put(0, 0, 0));
        d.takeOut(0);
        due(60, d.window(0, 0, 1439, 0));
        due(20, d.put(0, 0, 0));
        d.takeOut(0);
        due(0, d.window(0, 0, 1439, 1));
        due(1, d.window(0, 0, 1439, 0));
    }

    static void p8BothMinutesAreInTheWindow() {
        for (int[] told : new int[][] {{490, 490, 20}, {491, 491, 21}, {0, 490, 20}, {490, 1439, 20}, {492, 500, 22}}) {
            Couriersday d = street(10, 480, 2000);
            d.parcel(1, 1, 0);
            d.window(0, told[0], told[1], 0);
            due(told[2], d.put(0, 0, 0));
            due(480 + told[2] - 10, d.served(0));
        }
        refused(STATE, x -> {
            both(x, 0, 1, 10);
            x.van(100, 480, 2000);
            x.parcel(1, 1, 0);
            x.window(0, 0, 489, 0);
        }, x -> x.put(0, 0, 0));
    }

    static void p8TheServiceMayEndBehindTheWindow() {
        Couriersday d = street(10, 480, 2000);
        d.parcel(1, 1, 0);
        d.window(0, 0, 490, 60);
        due(80, d.put(0, 0, 0));
    }

    static void p8OnlyOfAParcelInNoRound() {
        refusedFor(STATE, Edges::busy, (d, n) -> d.window(n, 0, 1439, 0), 0, 1, 2);
        Couriersday d = day(Edges::busy);
        due(1, d.window(3, 0, 1439, 4));
        // DELIVERED, in a locker or BACK it is in no round
        for (int parcel = 4; parcel < 8; parcel++) {
            due(0, d.window(parcel, 0, 1439, parcel));
            due(parcel, d.window(parcel, 0, 1439, 0));
        }
        d.takeOut(0);
        due(5, d.window(0, 0, 1439, 0));
    }

    static void p8TheExceptionListedFirst() {
        refused(INDEX, Edges::busy, d -> d.window(8, -1, 1440, 61));
        refused(ARGUMENT, Edges::busy, d -> d.window(0, -1, 0, 0));
        refused(ARGUMENT, Edges::busy, d -> d.window(0, 5, 4, 0));
        refused(ARGUMENT, Edges::busy, d -> d.window(0, 0, 0, 61));
    }

    static void p8NothingAheadOfItCanBeUndone() {
        Couriersday d = lineWith(2, 1, 2);
        putAll(d, 0, 0, 1);
        d.takeOut(1);
        d.window(1, 0, 1439, 0);
        check(answer(d, x -> x.undo()).equals("NoSuchElementException"), "what is ahead of a window can be undone");
        dueRound(d, 0, 0);
        // what is behind it can be
        d.put(0, 1, 1);
        d.turned(0, 0, 2);
        due(1, d.undo());
        due(0, d.undo());
        dueRound(d, 0, 0);
        check(answer(d, x -> x.undo()).equals("NoSuchElementException"), "what is ahead of a window can be undone");
        // also one that tells just what was told
        d.put(0, 0, 1);
        d.takeOut(1);
        d.window(1, 0, 1439, 0);
        check(answer(d, x -> x.undo()).equals("NoSuchElementException"), "what is ahead of a window can be undone");
    }

    // ---- 9: van

    static void p9RoomFrom1To900() {
        refusedFor(ARGUMENT, Edges::busy, (d, n) -> d.van(n, 480, 900), MIN, -1, 0, 901, MAX);
        Couriersday d = line(1);
        due(0, d.van(1, 480, 900));
        due(1, d.van(900, 480, 900));
        for (int parcel = 0; parcel < 9; parcel++) {
            d.parcel(1, parcel == 0 ? 1 : 100, 0);
        }
        due(20, d.put(0, 0, 0));
        check(d.filled(0) == 1.0f, "filled(0) is " + d.filled(0));
        d.takeOut(0);
        check(answer(d, x -> x.put(0, 0, 1)).equals("IllegalStateException"), "there is room for 100 in 1");
    }

    static void p9AllSizesTogetherHaveRoomIn900() {
        Couriersday d = line(1);
        d.van(900, 480, 900);
        d.van(899, 480, 900);
        for (int parcel = 0; parcel < 9; parcel++) {
            d.parcel(1, 100, 0);
            due(20, d.put(0, parcel, parcel));
        }
        due(900, d.ofRound(0, 5));
        check(d.filled(0) == 1.0f, "filled(0) is " + d.filled(0));
        check(answer(d, x -> x.swapEnds(0, 0, 1, 0)).equals("IllegalStateException"), "there is room for 900 in 899");
        due(20 + 20, d.swapEnds(0, 1, 1, 0));
        due(800, d.ofRound(1, 5));
    }

    static void p9BeginsFrom0To1439() {
        refusedFor(ARGUMENT, Edges::busy, (d, n) -> d.van(10, n, 2000), MIN, -1, 1440, 2000, MAX);
        Couriersday d = line(1);
        due(0, d.van(10, 0, 2000));
        due(1, d.van(10, 1439, 2000));
        due(0, d.does(0, 0));
        d.parcel(1, 1, 0);
        due(20, d.put(0, 0, 0));
        due(10, d.served(0));
        due(1, d.does(0, 0));
        due(0, d.does(0, -1));
        due(0, d.ofRound(1, 0));
    }

    static void p9BackIsBeginsTo2000() {
        refusedFor(ARGUMENT, Edges::busy, (d, n) -> d.van(10, 500, n), MIN, -1, 0, 499, 2001, MAX);
        refused(ARGUMENT, Edges::busy, d -> d.van(10, 1439, 1438));
        refused(ARGUMENT, Edges::busy, d -> d.van(10, 1, 0));
        Couriersday d = line(1);
        due(0, d.van(10, 500, 500));
        due(1, d.van(10, 0, 0));
        due(2, d.van(10, 1439, 2000));
        // an empty round is back in time
        for (int van = 0; van < 3; van++) {
            due(0, d.ofRound(van, 0));
            due(0, d.exact(van));
            due(0, d.better(van));
        }
    }

    static void p9BackAt2000IsInTime() {
        // served from 1439 to 1499, then four streets of 120 minutes and one of 21 or 22
        for (int last = 21; last <= 22; last++) {
            Couriersday d = new Couriersday();
            d.street(0, 1, 120, 1, 0);
            for (int place = 1; place <= 4; place++) {
                d.street(place, place + 1, 120, 1, 0);
            }
            d.street(5, 0, last, 1, 0);
            d.van(100, 1319, 2000);
            d.parcel(1, 1, 0);
            d.window(0, 1439, 1439, 60);
            String got = answer(d, x -> x.put(0, 0, 0));
            check(got.equals(last == 21 ? "681" : "IllegalStateException"), "answered " + got);
        }
    }

    static void p9AtMost3NumberedFrom0() {
        Couriersday d = new Couriersday();
        for (int number = 0; number < 3; number++) {
            due(number, d.van(number + 1, 480, 900));
            due(0, d.roundAt(number, NONE));
        }
        refused(STATE, FleetEdgesTest::fullVans, x -> x.van(10, 480, 900));
    }

    static void p9TheExceptionListedFirst() {
        refused(ARGUMENT, FleetEdgesTest::fullVans, d -> d.van(0, 480, 900));
        refused(ARGUMENT, FleetEdgesTest::fullVans, d -> d.van(10, 1440, 2000));
        refused(ARGUMENT, FleetEdgesTest::fullVans, d -> d.van(10, 480, 479));
    }

    static void p9ItsRoundIsEmptyAtFirst() {
        Couriersday d = day(Edges::busy);
        due(2, d.van(900, 480, 900));
        due(0, d.roundAt(2, NONE));
        check(d.filled(2) == 0.0f, "filled(2) is " + d.filled(2));
        for (int what = 0; what <= 8; what++) {
            due(0, d.ofRound(2, what));
        }
    }
}
