/** The edges of promises 1 to 6: a new object, streets, factors, ways, arrivals and the clock. */
public final class StreetEdgesTest extends Edges {
    public static void main(String[] args) {
        run(StreetEdgesTest.class);
    }

    private static void fullStreets(Couriersday d) {
        idle(d);
        for (int i = 12; i < 60; i++) {
            d.street(i % 15, 15, 120, 50000, 9999);
        }
    }

    /** From each place to the next one, 0 to 15, all by the same numbers. */
    private static Couriersday chain(int minutes, int meters, int toll) {
        Couriersday d = new Couriersday();
        for (int place = 0; place < 15; place++) {
            d.street(place, place + 1, minutes, meters, toll);
        }
        return d;
    }

    private static void factors(Couriersday d, int factor) {
        for (int hour = 0; hour < 24; hour++) {
            d.factor(hour, factor);
        }
    }

    private static Couriersday oneStreet(int minutes) {
        return day(d -> d.street(0, 1, minutes, 1, 0));
    }

    // ---- 1: a new object

    static void p1NoStreets() {
        for (int what = 0; what <= 2; what++) {
            Couriersday d = new Couriersday();
            for (int from = 0; from < 16; from++) {
                for (int to = 0; to < 16; to++) {
                    due(from == to ? 0 : NONE, d.way(from, to, what));
                }
            }
        }
        due(1, new Couriersday().street(0, 1, 1, 1, 0));
        due(NONE, new Couriersday().arrival(0, 15, 0));
    }

    static void p1NoParcels() {
        Told van = d -> d.van(1, 0, 0);
        refused(INDEX, van, d -> d.window(0, 0, 0, 0));
        refused(INDEX, van, d -> d.put(0, 0, 0));
        refused(INDEX, van, d -> d.takeOut(0));
        refused(INDEX, van, d -> d.putIn(0));
        refused(INDEX, van, d -> d.putInCost(0));
        refused(INDEX, van, d -> d.served(0));
        refused(INDEX, van, d -> d.door(0, true));
        refused(INDEX, van, d -> d.door(0, false));
        refused(INDEX, van, d -> d.parcelAt(0, 0));
        due(0, new Couriersday().parcel(1, 1, 0));
    }

    static void p1NoVans() {
        Told parcel = d -> d.parcel(1, 1, 0);
        refused(INDEX, parcel, d -> d.put(0, 0, 0));
        refused(INDEX, parcel, d -> d.turned(0, 0, 0));
        refused(INDEX, parcel, d -> d.swapEnds(0, 0, 1, 0));
        refused(INDEX, parcel, d -> d.savings(0));
        refused(INDEX, parcel, d -> d.better(0));
        refused(INDEX, parcel, d -> d.exact(0));
        refused(INDEX, parcel, d -> d.roundAt(0, NONE));
        refused(INDEX, parcel, d -> d.ofRound(0, 0));
        refused(INDEX, parcel, d -> d.does(0, 0));
        refused(INDEX, parcel, d -> d.filled(0));
        refused(ELEMENT, parcel, d -> d.putIn(0));
        due(NONE, day(parcel).putInCost(0));
        refused(STATE, parcel, d -> d.together(0));
        refused(STATE, parcel, d -> d.share(0));
        refused(STATE, parcel, d -> d.blocks());
        due(0, new Couriersday().van(1, 0, 0));
    }

    static void p1NothingElse() {
        Couriersday d = new Couriersday();
        due(NONE, d.unlawful());
        due(270, d.mayDrive(false));
        due(540, d.mayDrive(true));
        due(271 + 45, d.leastTime(271));
        due(0, d.books(NONE));
        due(0, d.balance());
        due(0, d.errors());
        due(1, d.locker(1, 1));
        due(0, d.rules(30, 5, 60));
        due(100, d.rates(0, 0));
        check(d.meanPay() == 0.0, "meanPay() is " + d.meanPay());
        refused(ELEMENT, Edges::nothing, x -> x.undo());
        refused(ELEMENT, Edges::nothing, x -> x.books(0));
    }

    static void p1TwoDaysShareNothing() {
        Couriersday before = new Couriersday();
        day(Edges::busy);
        due(1, before.street(5, 6, 1, 1, 1));
        due(NONE, before.way(0, 1, 0));
        due(100, before.factor(8, 100));
        due(0, before.parcel(1, 1, 0));
        due(0, before.van(1, 0, 0));
        due(0, before.books(NONE));
        due(0, before.zone(false, 2));
        due(540, before.mayDrive(true));
        check(answer(before, d -> d.undo()).equals("NoSuchElementException"), "there is a change to undo");
    }

    static void p1The512thCallAnswers() {
        Couriersday d = new Couriersday();
        for (int call = 1; call <= 511; call++) {
            d.factor(call % 24, 50 + call % 200);
        }
        due(50 + 504 % 200, d.factor(504 % 24, 100));
        Couriersday e = lineWith(9, 1, 2, 3, 4, 5, 6, 7, 8, 9);
        for (int call = 29; call <= 511; call++) {
            e.putInCost(call % 9);
        }
        due(180, e.putInCost(8));
    }

    static void p1Constants() {
        due(-1, Couriersday.NONE);
        due(0, Couriersday.DRIVE);
        due(1, Couriersday.WORK);
        due(2, Couriersday.REST);
    }

    // ---- 2: street

    static void p2FromIsAPlace0To15() {
        refusedFor(INDEX, Edges::idle, (d, n) -> d.street(n, 7, 1, 1, 0), MIN, -1, 16, MAX);
        due(1, new Couriersday().street(0, 7, 1, 1, 0));
        Couriersday d = new Couriersday();
        due(1, d.street(15, 7, 3, 1, 0));
        due(3, d.way(15, 7, 0));
    }

    static void p2ToIsAPlace0To15() {
        refusedFor(INDEX, Edges::idle, (d, n) -> d.street(7, n, 1, 1, 0), MIN, -1, 16, MAX);
        due(1, new Couriersday().street(7, 0, 1, 1, 0));
        Couriersday d = new Couriersday();
        due(1, d.street(7, 15, 3, 1, 0));
        due(3, d.way(7, 15, 0));
    }

    static void p2BothPlacesTheSame() {
        refusedFor(ARGUMENT, Edges::idle, (d, n) -> d.street(n, n, 1, 1, 0), 0, 1, 15);
    }

    static void p2MinutesFrom1To120() {
        refusedFor(ARGUMENT, Edges::idle, (d, n) -> d.street(7, 8, n, 1, 0), MIN, -1, 0, 121, MAX);
        Couriersday d = new Couriersday();
        due(1, d.street(7, 8, 1, 1, 0));
        due(2, d.street(8, 7, 120, 1, 0));
        due(1, d.way(7, 8, 0));
        due(120, d.way(8, 7, 0));
    }

    static void p2MetersFrom1To50000() {
        refusedFor(ARGUMENT, Edges::idle, (d, n) -> d.street(7, 8, 1, n, 0), MIN, -1, 0, 50001, MAX);
        Couriersday d = new Couriersday();
        due(1, d.street(7, 8, 1, 1, 0));
        due(2, d.street(8, 7, 1, 50000, 0));
        due(1, d.way(7, 8, 1));
        due(50000, d.way(8, 7, 1));
    }

    static void p2TollFrom0To9999() {
        refusedFor(ARGUMENT, Edges::idle, (d, n) -> d.street(7, 8, 1, 1, n), MIN, -1, 10000, MAX);
        Couriersday d = new Couriersday();
        due(1, d.street(7, 8, 1, 1, 0));
        due(2, d.street(8, 7, 1, 1, 9999));
        due(0, d.way(7, 8, 2));
        due(9999, d.way(8, 7, 2));
    }

    static void p2AtMost60() {
        Couriersday d = new Couriersday();
        for (int count = 1; count <= 60; count++) {
            due(count, d.street(count % 15, 15, 120, 1, 0));
        }
        due(120, d.way(0, 15, 0));
        refused(STATE, StreetEdgesTest::fullStreets, x -> x.street(0, 1, 1, 1, 0));
        // the sixtieth one counts as each other one does
        Couriersday e = new Couriersday();
        for (int count = 1; count <= 59; count++) {
            e.street(1, 2, 100, 1, 0);
        }
        due(NONE, e.way(0, 15, 0));
        due(60, e.street(0, 15, 99, 1, 0));
        due(99, e.way(0, 15, 0));
        due(99, e.arrival(0, 15, 0));
    }

    static void p2NotWhileAParcelIsInARound() {
        refused(STATE, Edges::busy, d -> d.street(7, 8, 1, 1, 0));
        for (int van = 0; van < 3; van++) {
            int its = van;
            Told told = d -> {
                idle(d);
                d.van(100, 480, 900);
                d.put(its, 0, 1);
            };
            refused(STATE, told, d -> d.street(7, 8, 1, 1, 0));
        }
        Couriersday d = day(Edges::busy);
        d.takeOut(0);
        d.takeOut(1);
        check(answer(d, x -> x.street(7, 8, 1, 1, 0)).equals("IllegalStateException"), "one is left in a round");
        d.takeOut(2);
        due(13, d.street(7, 8, 1, 1, 0));
        // delivered, sent away or undone it is in no round either
        Couriersday e = lineWith(1, 1, 1, 1);
        e.put(0, 0, 0);
        e.door(0, true);
        due(3, e.street(7, 8, 1, 1, 0));
        sendAway(e, 1);
        due(4, e.street(7, 8, 1, 1, 0));
        e.put(0, 0, 2);
        e.undo();
        due(5, e.street(7, 8, 1, 1, 0));
    }

    static void p2TheExceptionListedFirst() {
        Told full = StreetEdgesTest::fullStreets;
        refused(INDEX, full, d -> d.street(16, 16, 0, 0, -1));
        refused(INDEX, full, d -> d.street(3, -1, 0, 0, -1));
        refused(ARGUMENT, full, d -> d.street(3, 3, 1, 1, 0));
        refused(ARGUMENT, full, d -> d.street(3, 4, 121, 1, 0));
        refused(ARGUMENT, full, d -> d.street(3, 4, 1, 0, 0));
        refused(ARGUMENT, full, d -> d.street(3, 4, 1, 1, 10000));
        refused(INDEX, Edges::busy, d -> d.street(-1, 0, 1, 1, 0));
        refused(ARGUMENT, Edges::busy, d -> d.street(0, 0, 1, 1, 0));
    }

    // ---- 3: factor

    static void p3HoursFrom0To23() {
        refusedFor(ARGUMENT, Edges::idle, (d, n) -> d.factor(n, 200), MIN, -1, 24, MAX);
        Couriersday d = new Couriersday();
        due(100, d.factor(0, 200));
        due(100, d.factor(23, 201));
        due(200, d.factor(0, 100));
        due(201, d.factor(23, 100));
    }

    static void p3FactorFrom50To300() {
        refusedFor(ARGUMENT, Edges::idle, (d, n) -> d.factor(8, n), MIN, -1, 0, 49, 301, MAX);
        Couriersday d = new Couriersday();
        due(100, d.factor(8, 50));
        due(50, d.factor(8, 300));
        due(300, d.factor(8, 100));
    }

    static void p3EachOf24HoursHas100AtFirst() {
        Couriersday d = new Couriersday();
        for (int hour = 0; hour < 24; hour++) {
            due(100, d.factor(hour, 51 + hour));
        }
        for (int hour = 0; hour < 24; hour++) {
            due(51 + hour, d.factor(hour, 100));
        }
    }

    // ---- 4: way

    static void p4FromIsAPlace0To15() {
        refusedFor(INDEX, Edges::busy, (d, n) -> d.way(n, 1, 0), MIN, -1, 16, MAX);
        refusedFor(INDEX, Edges::busy, (d, n) -> d.way(n, 1, 9), -1, 16);
        Couriersday d = day(x -> x.street(15, 0, 7, 1, 0));
        due(7, d.way(15, 0, 0));
        due(NONE, d.way(0, 15, 0));
    }

    static void p4ToIsAPlace0To15() {
        refusedFor(INDEX, Edges::busy, (d, n) -> d.way(1, n, 0), MIN, -1, 16, MAX);
        refusedFor(INDEX, Edges::busy, (d, n) -> d.way(1, n, 9), -1, 16);
    }

    static void p4WhatFrom0To2() {
        refusedFor(ARGUMENT, Edges::busy, (d, n) -> d.way(0, 1, n), MIN, -1, 3, MAX);
        // also where no streets lead
        refusedFor(ARGUMENT, Edges::busy, (d, n) -> d.way(0, 15, n), -1, 3);
        asked(Edges::busy, d -> d.way(0, 1, 0));
        asked(Edges::busy, d -> d.way(0, 1, 1));
        asked(Edges::busy, d -> d.way(0, 1, 2));
    }

    static void p4ToTheSamePlaceItIs0() {
        Couriersday d = day(x -> {
            x.street(0, 15, 1, 1, 1);
            x.street(15, 0, 1, 1, 1);
        });
        for (int what = 0; what <= 2; what++) {
            due(0, d.way(0, 0, what));
            due(0, d.way(15, 15, what));
            due(0, d.way(7, 7, what));
        }
    }

    static void p4NoneIfNoStreetsLeadThere() {
        Couriersday d = day(x -> x.street(3, 4, 1, 1, 1));
        for (int what = 0; what <= 2; what++) {
            due(1, d.way(3, 4, what));
            due(NONE, d.way(4, 3, what));
            due(NONE, d.way(0, 4, what));
            due(NONE, d.way(3, 0, what));
        }
    }

    static void p4OverAllPlaces() {
        Couriersday d = chain(120, 50000, 9999);
        due(15 * 120, d.way(0, 15, 0));
        due(15 * 50000, d.way(0, 15, 1));
        due(15 * 9999, d.way(0, 15, 2));
        due(NONE, d.way(15, 0, 0));
        due(120, d.way(14, 15, 0));
        Couriersday least = chain(1, 1, 0);
        due(15, least.way(0, 15, 0));
        due(15, least.way(0, 15, 1));
        due(0, least.way(0, 15, 2));
    }

    static void p4ANewStreetAtTheBeginTheEndOrInTheMiddleOfAWay() {
        for (int last = 0; last < 15; last++) {
            Couriersday d = new Couriersday();
            for (int place = 14; place >= 0; place--) {
                if (place != last) {
                    d.street(place, place + 1, place + 1, 10 * place + 1, 100 + place);
                }
            }
            due(NONE, d.way(0, 15, 0));
            d.street(last, last + 1, last + 1, 10 * last + 1, 100 + last);
            due(120, d.way(0, 15, 0));
            due(10 * 105 + 15, d.way(0, 15, 1));
            due(1500 + 105, d.way(0, 15, 2));
        }
    }

    static void p4LeastMinutesAheadOfMetersAndToll() {
        Couriersday d = new Couriersday();
        d.street(0, 1, 10, 1, 0);
        d.street(0, 1, 9, 50000, 9999);
        due(9, d.way(0, 1, 0));
        due(50000, d.way(0, 1, 1));
        due(9999, d.way(0, 1, 2));
        // the same told the other way round
        d.street(2, 3, 9, 50000, 9999);
        d.street(2, 3, 10, 1, 0);
        due(9, d.way(2, 3, 0));
        due(50000, d.way(2, 3, 1));
        due(9999, d.way(2, 3, 2));
    }

    static void p4OfTheSameMinutesTheLeastMeters() {
        Couriersday d = new Couriersday();
        d.street(0, 1, 10, 500, 0);
        d.street(0, 1, 10, 499, 9999);
        due(499, d.way(0, 1, 1));
        due(9999, d.way(0, 1, 2));
        d.street(2, 3, 10, 499, 9999);
        d.street(2, 3, 10, 500, 0);
        due(499, d.way(2, 3, 1));
        due(9999, d.way(2, 3, 2));
        // by a row of two streets
        d.street(0, 5, 4, 200, 3);
        d.street(5, 1, 6, 298, 4);
        due(10, d.way(0, 1, 0));
        due(498, d.way(0, 1, 1));
        due(7, d.way(0, 1, 2));
    }

    static void p4OfTheSameMetersTheLeastToll() {
        Couriersday d = new Couriersday();
        d.street(0, 1, 10, 500, 8);
        d.street(0, 1, 10, 500, 7);
        d.street(0, 1, 10, 500, 9);
        due(10, d.way(0, 1, 0));
        due(500, d.way(0, 1, 1));
        due(7, d.way(0, 1, 2));
    }

    // ---- 5: arrival

    static void p5FromIsAPlace0To15() {
        refusedFor(INDEX, Edges::busy, (d, n) -> d.arrival(n, 1, 0), MIN, -1, 16, MAX);
        refusedFor(INDEX, Edges::busy, (d, n) -> d.arrival(n, 1, 1440), -1, 16);
        due(101, day(d -> d.street(15, 0, 1, 1, 0)).arrival(15, 0, 100));
    }

    static void p5ToIsAPlace0To15() {
        refusedFor(INDEX, Edges::busy, (d, n) -> d.arrival(1, n, 0), MIN, -1, 16, MAX);
        refusedFor(INDEX, Edges::busy, (d, n) -> d.arrival(1, n, -1), -1, 16);
        due(101, day(d -> d.street(0, 15, 1, 1, 0)).arrival(0, 15, 100));
    }

    static void p5MinuteFrom0To1439() {
        refusedFor(ARGUMENT, Edges::busy, (d, n) -> d.arrival(0, 1, n), MIN, -1, 1440, MAX);
        refusedFor(ARGUMENT, Edges::busy, (d, n) -> d.arrival(0, 0, n), -1, 1440);
        refusedFor(ARGUMENT, Edges::busy, (d, n) -> d.arrival(0, 15, n), -1, 1440);
        due(10, oneStreet(10).arrival(0, 1, 0));
        due(1449, oneStreet(10).arrival(0, 1, 1439));
        asked(Edges::busy, d -> d.arrival(0, 3, 500));
    }

    static void p5AtTheSamePlaceItIsTheMinute() {
        Couriersday d = oneStreet(1);
        due(0, d.arrival(0, 0, 0));
        due(1439, d.arrival(0, 0, 1439));
        due(700, d.arrival(15, 15, 700));
    }

    static void p5NoneIfNoStreetsLeadThere() {
        due(NONE, oneStreet(1).arrival(1, 0, 0));
        due(NONE, oneStreet(1).arrival(0, 2, 1439));
        due(NONE, new Couriersday().arrival(14, 15, 0));
    }

    static void p5TheFactorOfTheHourOfEntering() {
        Couriersday d = oneStreet(10);
        d.factor(1, 200);
        due(69, d.arrival(0, 1, 59));
        due(80, d.arrival(0, 1, 60));
        due(128, d.arrival(0, 1, 108));
        due(130, d.arrival(0, 1, 120));
        // it stays when an hour with another factor begins on the street, to the better or the worse
        Couriersday e = oneStreet(100);
        e.factor(1, 300);
        due(159, e.arrival(0, 1, 59));
        e.factor(1, 100);
        e.factor(2, 300);
        due(60 + 100, e.arrival(0, 1, 60));
        due(119 + 100, e.arrival(0, 1, 119));
    }

    static void p5RoundedUp() {
        int[][] told = {{1, 50, 1}, {2, 50, 1}, {3, 50, 2}, {1, 100, 1}, {1, 101, 2}, {2, 149, 3}, {2, 150, 3},
            {2, 151, 4}, {7, 115, 9}, {120, 300, 360}, {119, 299, 356}, {120, 50, 60}, {119, 50, 60}, {99, 101, 100},
            {100, 101, 101}};
        for (int[] one : told) {
            Couriersday d = oneStreet(one[0]);
            factors(d, one[1]);
            due(one[2], d.arrival(0, 1, 0));
        }
    }

    static void p5WaitsForALaterHourIfThatIsLess() {
        Couriersday d = oneStreet(10);
        d.factor(1, 200);
        // at 109: 129 at once, 130 behind waiting; at 110 both 130; at 111: 131 at once
        due(129, d.arrival(0, 1, 109));
        due(130, d.arrival(0, 1, 110));
        due(130, d.arrival(0, 1, 111));
        due(130, d.arrival(0, 1, 119));
        // over several hours, to the last one that can help
        Couriersday e = oneStreet(120);
        factors(e, 300);
        due(360, e.arrival(0, 1, 0));
        e.factor(5, 50);
        due(360, e.arrival(0, 1, 0));
        due(360, e.arrival(0, 1, 1));
        due(360, e.arrival(0, 1, 359 - 60));
        e.factor(4, 50);
        due(300, e.arrival(0, 1, 0));
        e.factor(4, 99);
        due(240 + 119, e.arrival(0, 1, 0));
    }

    static void p5WaitsAtEachPlaceOnTheWay() {
        Couriersday d = new Couriersday();
        d.street(0, 1, 1, 1, 0);
        d.street(1, 2, 100, 1, 0);
        d.street(2, 3, 100, 1, 0);
        d.factor(0, 300);
        d.factor(1, 50);
        // at the place 1 by 3, on at 60, at the place 2 by 110, on at once: in the hour of 110
        due(110, d.arrival(0, 2, 0));
        due(160, d.arrival(0, 3, 0));
        d.factor(1, 300);
        d.factor(2, 50);
        due(170, d.arrival(0, 2, 0));
        due(220, d.arrival(0, 3, 0));
    }

    static void p5AnotherWayThanThatOfD() {
        Couriersday d = new Couriersday();
        d.street(0, 1, 50, 1, 0);
        d.street(1, 2, 50, 1, 0);
        d.street(0, 2, 101, 1, 0);
        due(100, d.arrival(0, 2, 0));
        d.factor(0, 110);
        d.factor(1, 110);
        d.factor(2, 200);
        // 55, then 55 more; at once over the long street 112
        due(110, d.arrival(0, 2, 0));
        d.factor(0, 100);
        d.factor(1, 300);
        // 50, then 100 by the hour 0 still; the third hour begins at 120
        due(100, d.arrival(0, 2, 0));
        due(10 + 101, d.arrival(0, 2, 10));
    }

    static void p5BehindTheDaysEndTheSameHoursOnceMore() {
        Couriersday d = oneStreet(120);
        d.factor(23, 300);
        due(1379 + 120, d.arrival(0, 1, 1379));
        due(1440 + 120, d.arrival(0, 1, 1380));
        due(1440 + 120, d.arrival(0, 1, 1439));
        d.factor(0, 50);
        due(1440 + 60, d.arrival(0, 1, 1439));
        due(60, d.arrival(0, 1, 0));
        // the hour 1 of the next day
        d.factor(0, 300);
        d.factor(1, 50);
        due(1500 + 60, d.arrival(0, 1, 1439));
    }

    static void p5OverSeveralDays() {
        Couriersday d = chain(120, 1, 0);
        factors(d, 300);
        due(15 * 360, d.arrival(0, 15, 0));
        due(1439 + 15 * 360, d.arrival(0, 15, 1439));
        // with one fast hour, 720 to 779 of each day, that is waited for if that is less
        d.factor(12, 50);
        due(780, d.arrival(0, 3, 0));
        due(1860, d.arrival(0, 6, 0));
        due(1440 + 780, d.arrival(0, 7, 0));
        due(1890, d.arrival(0, 6, 30));
        due(1440 + 780, d.arrival(0, 7, 30));
        due(3 * 1440 + 780, d.arrival(0, 15, 0));
        d.factor(12, 51);
        due(3 * 1440 + 720 + 62, d.arrival(0, 15, 30));
    }

    static void p5RoundsCountDWithoutFactors() {
        Couriersday d = lineWith(2, 1, 2);
        factors(d, 300);
        due(20, d.put(0, 0, 0));
        due(40, d.put(0, 1, 1));
        due(500, d.served(1));
        due(10, d.way(0, 1, 0));
    }

    // ---- 6: clock

    static void p6HoursFrom0To23() {
        refusedFor(ARGUMENT, Edges::busy, (d, n) -> d.clock(n, 0, 0), MIN, -1, 24, MAX);
        due(0, new Couriersday().clock(0, 0, 0));
        due(23 * 60, new Couriersday().clock(23, 0, 0));
    }

    static void p6MinutesFrom0To59() {
        refusedFor(ARGUMENT, Edges::busy, (d, n) -> d.clock(0, n, 0), MIN, -1, 60, MAX);
        due(59, new Couriersday().clock(0, 59, 0));
        due(1439, new Couriersday().clock(23, 59, 0));
        asked(Edges::busy, d -> d.clock(1, 2, 3));
    }

    static void p6LaterFrom0To100000() {
        refusedFor(ARGUMENT, Edges::busy, (d, n) -> d.clock(0, 0, n), MIN, -1, 100001, MAX);
        due(100000 - 69 * 1440, new Couriersday().clock(0, 0, 100000));
        due(100000 + 1439 - 70 * 1440, new Couriersday().clock(23, 59, 100000));
    }

    static void p6OverTheEndsOfDays() {
        Couriersday d = new Couriersday();
        due(1439, d.clock(0, 0, 1439));
        due(0, d.clock(0, 0, 1440));
        due(1, d.clock(0, 0, 1441));
        due(0, d.clock(23, 59, 1));
        due(1439, d.clock(23, 59, 1440));
        due(0, d.clock(23, 59, 1441));
        due(1439, d.clock(0, 0, 69 * 1440 - 1));
        due(0, d.clock(0, 0, 69 * 1440));
        due(0, d.clock(12, 0, 720));
        due(1439, d.clock(12, 0, 719));
    }
}
