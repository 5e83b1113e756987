/** The edges of promises 29 to 34: doors, lockers, what is told of a parcel, zones and their balance. */
public final class DoorEdgesTest extends Edges {
    private static final int WAITING = 0, DELIVERED = 1, IN_LOCKER = 2, BACK = 3;

    public static void main(String[] args) {
        run(DoorEdgesTest.class);
    }

    /** The state of a parcel when it has failed at the door until it left its round. */
    private static int stateThen(Couriersday d, int parcel) {
        sendAway(d, parcel);
        return d.parcelAt(parcel, 0);
    }

    private static void dueState(Couriersday d, int parcel, int state, int failures, int van, int locker) {
        due(state, d.parcelAt(parcel, 0));
        due(failures, d.parcelAt(parcel, 1));
        due(van, d.parcelAt(parcel, 2));
        due(locker, d.parcelAt(parcel, 3));
    }

    // ---- 29: door

    static void p29TheParcelIsThere() {
        for (boolean succeeds : new boolean[] {false, true}) {
            refusedFor(INDEX, Edges::busy, (d, n) -> d.door(n, succeeds), MIN, -1, 8, 9, MAX);
        }
    }

    static void p29TheParcelIsWaitingAndInARound() {
        for (boolean succeeds : new boolean[] {false, true}) {
            // waiting in no round, DELIVERED and paid, DELIVERED, in a locker, BACK
            refusedFor(STATE, Edges::busy, (d, n) -> d.door(n, succeeds), 3, 4, 5, 6, 7);
            refusedFor(STATE, Edges::idle, (d, n) -> d.door(n, succeeds), 0, 1, 2);
        }
    }

    static void p29ASuccess() {
        Couriersday d = lineWith(3, 1, 2, 3);
        putAll(d, 0, 0, 1, 2);
        due(DELIVERED, d.door(1, true));
        dueRound(d, 0, 0, 2);
        dueState(d, 1, DELIVERED, 0, NONE, NONE);
        due(DELIVERED, d.door(0, true));
        due(DELIVERED, d.door(2, true));
        dueRound(d, 0);
        // behind two failures, too
        Couriersday e = lineWith(1, 1);
        e.put(0, 0, 0);
        due(WAITING, e.door(0, false));
        due(WAITING, e.door(0, false));
        due(DELIVERED, e.door(0, true));
        dueState(e, 0, DELIVERED, 2, NONE, NONE);
    }

    static void p29AFailureToTheEndOfItsRound() {
        Couriersday d = lineWith(3, 1, 2, 3);
        putAll(d, 0, 0, 1, 2);
        due(WAITING, d.door(0, false));
        dueRound(d, 0, 1, 2, 0);
        dueState(d, 0, WAITING, 1, 0, NONE);
        due(WAITING, d.door(2, false));
        dueRound(d, 0, 1, 0, 2);
        due(WAITING, d.door(2, false));
        dueRound(d, 0, 1, 0, 2);
        dueState(d, 2, WAITING, 2, 0, NONE);
        // all nine, the first one to the end
        Couriersday e = line(1);
        e.van(900, 480, 900);
        for (int parcel = 0; parcel < 9; parcel++) {
            e.parcel(1, 100, 0);
            e.put(0, parcel, parcel);
        }
        due(WAITING, e.door(0, false));
        dueRound(e, 0, 1, 2, 3, 4, 5, 6, 7, 8, 0);
    }

    static void p29TheThirdFailure() {
        for (int locker = 0; locker <= 1; locker++) {
            Couriersday d = lineWith(2, 1, 2);
            putAll(d, 0, 0, 1);
            if (locker == 1) {
                d.locker(2, 1);
            }
            due(WAITING, d.door(0, false));
            due(WAITING, d.door(0, false));
            due(locker == 1 ? IN_LOCKER : BACK, d.door(0, false));
            dueState(d, 0, locker == 1 ? IN_LOCKER : BACK, 3, NONE, locker == 1 ? 2 : NONE);
            dueRound(d, 0, 1);
        }
        // failures count on when it was taken out in between, also in another van
        Couriersday d = lineWith(1, 1);
        d.van(100, 480, 900);
        d.put(0, 0, 0);
        d.door(0, false);
        d.takeOut(0);
        d.put(1, 0, 0);
        d.door(0, false);
        d.takeOut(0);
        dueState(d, 0, WAITING, 2, NONE, NONE);
        d.put(0, 0, 0);
        due(BACK, d.door(0, false));
    }

    static void p29NotKeptAtTheEndOfItsRound() {
        // by its window
        for (int to = 509; to <= 510; to++) {
            Couriersday d = lineWith(2, 1, 2);
            d.window(0, 0, to, 0);
            putAll(d, 0, 0, 1);
            due(to == 510 ? WAITING : BACK, d.door(0, false));
            dueState(d, 0, to == 510 ? WAITING : BACK, 1, to == 510 ? 0 : NONE, NONE);
            due(to == 510 ? 2 : 1, d.roundAt(0, NONE));
        }
        // by being back in time: 0 1 takes 30, 1 0 takes 60
        for (int back = 539; back <= 540; back++) {
            Couriersday d = new Couriersday();
            d.street(0, 1, 10, 1, 0);
            d.street(1, 2, 10, 1, 0);
            d.street(2, 0, 10, 1, 0);
            d.van(100, 480, back);
            d.parcel(1, 10, 0);
            d.parcel(2, 10, 0);
            d.locker(1, 1);
            putAll(d, 0, 0, 1);
            due(back == 540 ? WAITING : IN_LOCKER, d.door(0, false));
            dueState(d, 0, back == 540 ? WAITING : IN_LOCKER, 1, back == 540 ? 0 : NONE, back == 540 ? NONE : 1);
        }
        // at the second failure: 1 0 2 serves the 0 at 510, 1 2 0 at 530
        Couriersday d = lineWith(3, 1, 2, 3);
        d.window(0, 0, 529, 0);
        putAll(d, 0, 0, 1);
        due(WAITING, d.door(0, false));
        d.put(0, 2, 2);
        due(BACK, d.door(0, false));
        dueState(d, 0, BACK, 2, NONE, NONE);
        dueRound(d, 0, 1, 2);
    }

    static void p29TheLeastDOfTheLockers() {
        // its own place, then 2 and 4 alike from 3, then 1, then 5; the depot has none
        Couriersday d = lineWith(7, 3, 3, 3, 3, 3, 3);
        for (int place : new int[] {7, 4, 1, 2, 3}) {
            d.locker(place, 1);
        }
        int[] due = {3, 2, 4, 1, 7};
        for (int parcel = 0; parcel < 5; parcel++) {
            due(IN_LOCKER, stateThen(d, parcel));
            due(due[parcel], d.parcelAt(parcel, 3));
        }
        due(BACK, stateThen(d, 5));
        due(NONE, d.parcelAt(5, 3));
        // the D is that from the place of the parcel, not that to it
        Couriersday e = lineWith(1, 1);
        e.street(1, 2, 50, 1, 0);
        e.street(2, 1, 1, 1, 0);
        e.street(1, 3, 49, 1, 0);
        e.street(3, 1, 100, 1, 0);
        e.locker(2, 1);
        e.locker(3, 1);
        due(IN_LOCKER, stateThen(e, 0));
        due(3, e.parcelAt(0, 3));
    }

    static void p29NoneThatCanBeComeTo() {
        Couriersday d = lineWith(1, 1, 1, 1);
        due(BACK, stateThen(d, 0));
        // one from which, but not to which streets lead
        d.locker(2, 5);
        d.street(2, 1, 1, 1, 0);
        due(BACK, stateThen(d, 1));
        d.street(1, 2, 120, 1, 0);
        due(IN_LOCKER, stateThen(d, 2));
    }

    static void p29AFullLocker() {
        for (int slots = 1; slots <= 5; slots++) {
            Couriersday d = lineWith(2, 1, 1, 1, 1, 1, 1, 1);
            d.locker(1, slots);
            d.locker(2, 1);
            for (int parcel = 0; parcel < 7; parcel++) {
                int state = stateThen(d, parcel);
                due(parcel <= slots ? IN_LOCKER : BACK, state);
                due(parcel < slots ? 1 : parcel == slots ? 2 : NONE, d.parcelAt(parcel, 3));
            }
        }
    }

    static void p29WhatItDidCantBeUndone() {
        for (boolean succeeds : new boolean[] {false, true}) {
            Couriersday d = lineWith(2, 1, 2);
            putAll(d, 0, 0, 1);
            d.door(0, succeeds);
            check(answer(d, x -> x.undo()).equals("NoSuchElementException"), "a door can be undone");
        }
    }

    // ---- 30: locker

    static void p30ThePlaceIsThere() {
        refusedFor(INDEX, Edges::busy, (d, n) -> d.locker(n, 1), MIN, -1, 16, MAX);
        refusedFor(INDEX, Edges::busy, (d, n) -> d.locker(n, 6), -1, 16);
        Couriersday d = new Couriersday();
        due(1, d.locker(1, 1));
        due(2, d.locker(15, 1));
    }

    static void p30ThePlaceIsNotTheDepot() {
        refused(ARGUMENT, Edges::busy, d -> d.locker(0, 1));
        refused(ARGUMENT, Edges::nothing, d -> d.locker(0, 5));
    }

    static void p30SlotsFrom1To5() {
        refusedFor(ARGUMENT, Edges::busy, (d, n) -> d.locker(5, n), MIN, -1, 0, 6, MAX);
        Couriersday d = new Couriersday();
        due(1, d.locker(5, 1));
        due(2, d.locker(6, 5));
    }

    static void p30OneAtMostForEachPlace() {
        refusedFor(STATE, Edges::busy, (d, n) -> d.locker(n, 1), 2, 4);
        refusedFor(STATE, Edges::busy, (d, n) -> d.locker(2, n), 1, 2, 5);
        Couriersday d = new Couriersday();
        for (int place = 1; place <= 15; place++) {
            due(place, d.locker(place, 1 + place % 5));
        }
        for (int place = 1; place <= 15; place++) {
            int its = place;
            check(answer(d, x -> x.locker(its, 1)).equals("IllegalStateException"), "there are two at " + place);
        }
        // a full one is there, too
        Couriersday e = lineWith(1, 1, 1);
        e.locker(1, 1);
        stateThen(e, 0);
        check(answer(e, x -> x.locker(1, 1)).equals("IllegalStateException"), "there are two at 1");
        due(BACK, stateThen(e, 1));
    }

    static void p30TheExceptionListedFirst() {
        refusedFor(ARGUMENT, Edges::busy, (d, n) -> d.locker(2, n), 0, 6);
        refused(INDEX, Edges::busy, d -> d.locker(16, 0));
        refused(ARGUMENT, Edges::busy, d -> d.locker(0, 0));
    }

    // ---- 31: parcelAt

    static void p31TheParcelIsThere() {
        refusedFor(INDEX, Edges::busy, (d, n) -> d.parcelAt(n, 0), MIN, -1, 8, 9, MAX);
        refusedFor(INDEX, Edges::busy, (d, n) -> d.parcelAt(n, 7), -1, 8);
        Couriersday d = new Couriersday();
        for (int parcel = 0; parcel < 9; parcel++) {
            d.parcel(1, parcel + 1, 0);
        }
        due(1, d.parcelAt(0, 5));
        due(9, d.parcelAt(8, 5));
    }

    static void p31WhatFrom0To6() {
        refusedFor(ARGUMENT, Edges::busy, (d, n) -> d.parcelAt(0, n), MIN, -1, 7, MAX);
        for (int what = 0; what <= 6; what++) {
            int asked = what;
            asked(Edges::busy, d -> d.parcelAt(0, asked));
        }
    }

    static void p31EachOfAllStates() {
        Couriersday d = day(Edges::busy);
        int[][] told = {{0, 0, 0, NONE, 1, 10, 0}, {0, 0, 1, NONE, 2, 11, 1}, {0, 0, 0, NONE, 3, 12, 2},
            {0, 0, NONE, NONE, 4, 13, 0}, {1, 0, NONE, NONE, 5, 14, 1}, {1, 0, NONE, NONE, 1, 15, 2},
            {2, 3, NONE, 2, 2, 16, 0}, {3, 3, NONE, NONE, 3, 17, 1}};
        for (int parcel = 0; parcel < told.length; parcel++) {
            for (int what = 0; what <= 6; what++) {
                due(told[parcel][what], d.parcelAt(parcel, what));
            }
        }
    }

    // ---- 32: setZone

    static void p32ThePlaceIsThere() {
        refusedFor(INDEX, Edges::busy, (d, n) -> d.setZone(n, 1), MIN, -1, 16, MAX);
        refusedFor(INDEX, Edges::busy, (d, n) -> d.setZone(n, 3), -1, 16);
        Couriersday d = new Couriersday();
        due(0, d.setZone(1, 1));
        due(0, d.setZone(15, 2));
        due(1, d.zone(false, 1));
        due(2, d.zone(false, 15));
    }

    static void p32ThePlaceIsNotTheDepot() {
        refusedFor(ARGUMENT, Edges::busy, (d, n) -> d.setZone(0, n), -1, 0, 1, 2, 3);
    }

    static void p32ZonesFrom0To2() {
        refusedFor(ARGUMENT, Edges::busy, (d, n) -> d.setZone(2, n), MIN, -1, 3, MAX);
        Couriersday d = new Couriersday();
        due(0, d.setZone(2, 0));
        due(0, d.setZone(2, 1));
        due(1, d.setZone(2, 2));
        due(2, d.setZone(2, 0));
        due(0, d.setZone(2, 0));
    }

    static void p32EachPlaceButTheDepotHasTheZone0AtFirst() {
        Couriersday d = new Couriersday();
        for (int place = 1; place <= 15; place++) {
            due(0, d.zone(false, place));
            due(0, d.setZone(place, 1 + place % 2));
        }
        for (int place = 1; place <= 15; place++) {
            due(1 + place % 2, d.setZone(place, 0));
        }
    }

    // ---- 33: balance

    /** Places 1 and 2 with so much load and a street between them; the 2 is of the zone 2. */
    private static Couriersday twoPlaces(int load, int other) {
        return day(d -> {
            d.street(1, 2, 1, 1, 0);
            d.setZone(2, 2);
            d.setZone(4, 1);
            told(d, 1, load);
            told(d, 2, other);
            told(d, 3, 1);
        });
    }

    private static void told(Couriersday d, int place, int load) {
        for (int left = load; left > 0; left -= 100) {
            d.parcel(place, Math.min(left, 100), 0);
        }
    }

    static void p33NothingToGoOver() {
        due(0, new Couriersday().balance());
        // no parcels, and all loads alike
        Couriersday d = line(3);
        due(0, d.balance());
        d.setZone(2, 1);
        d.setZone(3, 2);
        due(0, d.balance());
        for (int place = 1; place <= 3; place++) {
            d.parcel(place, 10, 0);
        }
        due(0, d.balance());
        for (int place = 1; place <= 3; place++) {
            due(place - 1, d.zone(false, place));
        }
    }

    static void p33IfItBecomesLess() {
        // 51 0 10: the least zone is the zone 1, to which no street leads
        due(0, twoPlaces(50, 10).balance());
        // 21 and some and 0 become 1, some and 20; with 22 the zone 1 has the greatest load
        for (int middle = 0; middle <= 22; middle++) {
            Couriersday d = twoPlaces(20, 0);
            told(d, 4, middle);
            due(middle <= 21 ? 1 : 0, d.balance());
            due(middle <= 21 ? 20 : 0, d.zone(true, 2));
        }
    }

    static void p33TheSameDifferenceIsNotLess() {
        // 30 at one place of zone 0 and nothing else: going over leaves the difference as it is
        Couriersday d = day(x -> {
            x.street(1, 2, 1, 1, 0);
            x.setZone(2, 2);
            x.parcel(1, 30, 0);
        });
        due(0, d.balance());
        due(0, d.zone(false, 1));
        // with 1 besides in each of both it becomes less: 31 1 1 becomes 1 1 31, no: the same again
        d.parcel(2, 1, 0);
        d.parcel(3, 1, 0);
        d.setZone(4, 1);
        d.parcel(4, 1, 0);
        due(0, d.balance());
        // with 2 in the zone 1 and 1 more to spare, 31 2 0 becomes 1 2 30: one less
        Couriersday e = day(x -> {
            x.street(1, 2, 1, 1, 0);
            x.setZone(2, 2);
            x.setZone(4, 1);
            x.parcel(1, 30, 0);
            x.parcel(3, 1, 0);
            x.parcel(4, 2, 0);
        });
        due(1, e.balance());
        due(2, e.zone(false, 1));
    }

    static void p33AStreetToOrFromAPlaceOfTheZone() {
        int[][] streets = {{1, 2, 1}, {2, 1, 1}, {1, 3, 0}, {3, 1, 0}, {0, 1, 0}, {1, 0, 0}, {1, 5, 0}, {2, 3, 0}};
        for (int[] street : streets) {
            Couriersday d = new Couriersday();
            d.street(street[0], street[1], 1, 1, 0);
            d.setZone(2, 2);
            d.setZone(3, 1);
            d.parcel(3, 10, 0);
            d.parcel(1, 10, 0);
            d.parcel(5, 10, 0);
            due(street[2], d.balance());
            due(street[2] == 1 ? 2 : 0, d.zone(false, 1));
        }
    }

    static void p33OnlyPlacesWithParcelsThatWait() {
        // delivered ones are no load: the place 1 stays, the place 3 goes
        Couriersday d = lineWith(1, 1);
        d.street(1, 2, 1, 1, 0);
        d.setZone(2, 2);
        d.setZone(4, 1);
        d.parcel(4, 10, 0);
        d.parcel(5, 10, 0);
        d.put(0, 0, 0);
        due(1, day(x -> {
            both(x, 0, 1, 10);
            x.van(100, 480, 1200);
            x.parcel(1, 10, 0);
            x.street(1, 2, 1, 1, 0);
            x.setZone(2, 2);
            x.setZone(4, 1);
            x.parcel(4, 10, 0);
            x.parcel(5, 10, 0);
            x.put(0, 0, 0);
        }).balance());
        d.door(0, true);
        due(0, d.balance());
        due(0, d.zone(false, 1));
    }

    static void p33FromEachZoneToEachOther() {
        int[][] orders = {{0, 1, 2}, {0, 2, 1}, {1, 0, 2}, {1, 2, 0}, {2, 0, 1}, {2, 1, 0}};
        for (int[] order : orders) {
            // 50 in the first zone, 49 in the second, 10 in the last; a place with 20 goes over
            Couriersday d = new Couriersday();
            d.street(2, 1, 1, 1, 0);
            d.parcel(1, 10, 0);
            d.parcel(2, 20, 0);
            d.parcel(3, 30, 0);
            d.parcel(4, 49, 0);
            d.setZone(1, order[2]);
            d.setZone(2, order[0]);
            d.setZone(3, order[0]);
            d.setZone(4, order[1]);
            due(1, d.balance());
            due(order[2], d.zone(false, 2));
            due(30, d.zone(true, order[0]));
            due(49, d.zone(true, order[1]));
            due(30, d.zone(true, order[2]));
        }
    }

    static void p33ALoadOf1() {
        Couriersday d = day(x -> {
            x.street(1, 2, 1, 1, 0);
            x.setZone(2, 2);
            x.setZone(4, 1);
            x.parcel(1, 1, 0);
            x.parcel(3, 1, 0);
            x.parcel(4, 1, 0);
        });
        due(1, d.balance());
        due(2, d.zone(false, 1));
    }

    static void p33TheLastOfSixtyStreets() {
        for (int last = 0; last <= 1; last++) {
            Couriersday d = new Couriersday();
            for (int count = 1; count < 60; count++) {
                d.street(1, 3, 1, 1, 0);
            }
            d.street(1, last == 1 ? 2 : 3, 1, 1, 0);
            d.setZone(2, 2);
            d.setZone(4, 1);
            d.parcel(1, 10, 0);
            d.parcel(3, 10, 0);
            d.parcel(4, 10, 0);
            due(last, d.balance());
        }
    }

    static void p33LoadsAreThoseOfEachTime() {
        // loads of an earlier balance are nothing to a later one, where the zones 0 and 1 have the same
        Couriersday d = new Couriersday();
        d.street(1, 3, 1, 1, 0);
        d.street(2, 3, 1, 1, 0);
        for (int place : new int[] {1, 2, 4, 5}) {
            d.parcel(place, 10, 0);
            d.setZone(place, place % 2);
        }
        d.setZone(3, 2);
        d.setZone(2, 2);
        d.setZone(4, 2);
        due(20, d.zone(true, 1));
        due(20, d.zone(true, 2));
        due(0, d.balance());
        d.setZone(2, 0);
        d.setZone(4, 0);
        due(1, d.balance());
        due(2, d.zone(false, 2));
        due(1, d.zone(false, 1));
    }

    static void p33OfSeveralTheGreatestLoadInTheLeastZone() {
        // 20 20 0: the zone 0 gives, not the zone 1
        Couriersday d = new Couriersday();
        d.street(1, 3, 1, 1, 0);
        d.street(2, 3, 1, 1, 0);
        d.setZone(2, 1);
        d.setZone(3, 2);
        d.setZone(5, 1);
        for (int place : new int[] {1, 2, 4, 5}) {
            d.parcel(place, 10, 0);
        }
        due(1, d.balance());
        due(2, d.zone(false, 1));
        due(1, d.zone(false, 2));
        // 0 20 20: the zone 1 gives, not the zone 2
        Couriersday e = new Couriersday();
        e.street(1, 3, 1, 1, 0);
        e.street(2, 3, 1, 1, 0);
        for (int place : new int[] {1, 2, 4, 5}) {
            e.parcel(place, 10, 0);
            e.setZone(place, 1 + place / 4 + place % 2 - (place == 5 ? 1 : 0));
        }
        // 1 and 5 are of the zone 2, 2 of the zone 1, 4 of the zone 2: 0 10 30
        due(10, e.zone(true, 1));
        due(30, e.zone(true, 2));
        e.setZone(4, 1);
        due(20, e.zone(true, 1));
        due(1, e.balance());
        due(0, e.zone(false, 2));
        due(2, e.zone(false, 1));
    }

    static void p33OfSeveralTheLeastLoadInTheGreatestZone() {
        // 20 0 0: it goes to the zone 2, not to the zone 1
        Couriersday d = new Couriersday();
        d.street(1, 2, 1, 1, 0);
        d.street(1, 3, 1, 1, 0);
        d.setZone(2, 1);
        d.setZone(3, 2);
        d.parcel(1, 10, 0);
        d.parcel(4, 10, 0);
        d.parcel(2, 1, 0);
        d.parcel(3, 1, 0);
        due(1, d.balance());
        due(2, d.zone(false, 1));
        // 0 20 0: to the zone 2, not to the zone 0
        Couriersday e = new Couriersday();
        e.street(1, 2, 1, 1, 0);
        e.street(1, 3, 1, 1, 0);
        for (int place : new int[] {1, 4}) {
            e.parcel(place, 10, 0);
            e.setZone(place, 1);
        }
        e.parcel(2, 1, 0);
        e.parcel(3, 1, 0);
        e.setZone(3, 2);
        due(1, e.balance());
        due(2, e.zone(false, 1));
    }

    static void p33OfSeveralTheLeastPlace() {
        for (int first = 1; first <= 2; first++) {
            Couriersday d = new Couriersday();
            d.street(3 - first, 15, 1, 1, 0);
            d.street(first, 15, 1, 1, 0);
            d.setZone(15, 2);
            d.setZone(14, 1);
            d.parcel(14, 10, 0);
            d.parcel(3 - first, 10, 0);
            d.parcel(first, 10, 0);
            due(1, d.balance());
            due(2, d.zone(false, 1));
            due(0, d.zone(false, 2));
        }
    }

    static void p33ThePlaceByWhichTheDifferenceBecomesTheLeast() {
        // 60 20 0 with 10, 20 and 30 to go: 50 20 10, 40 20 20, 30 20 30
        Couriersday d = new Couriersday();
        int[] sizes = {0, 10, 20, 30};
        for (int place = 1; place <= 3; place++) {
            d.street(place, 15, 1, 1, 0);
            d.parcel(place, sizes[place], 0);
        }
        d.setZone(15, 2);
        d.setZone(14, 1);
        d.parcel(14, 20, 0);
        due(1, d.balance());
        due(2, d.zone(false, 3));
        due(30, d.zone(true, 0));
        due(30, d.zone(true, 2));
    }

    static void p33OnceAfterTheOther() {
        // six places of 10 along a line, all of zone 0 but the last two
        Couriersday d = line(6);
        for (int place = 1; place <= 6; place++) {
            d.parcel(place, 10, 0);
        }
        d.setZone(5, 2);
        d.setZone(6, 1);
        due(1, d.balance());
        due(0, d.balance());
        due(2, d.zone(false, 4));
        // a refused or an asked call between them changes nothing
        asked(Edges::busy, x -> x.zone(true, 0));
        asked(Edges::busy, x -> x.zone(false, 1));
    }

    // ---- 34: zone

    static void p34ZonesFrom0To2() {
        refusedFor(INDEX, Edges::busy, (d, n) -> d.zone(true, n), MIN, -1, 3, 15, MAX);
        Couriersday d = new Couriersday();
        for (int zone = 0; zone <= 2; zone++) {
            due(0, d.zone(true, zone));
        }
    }

    static void p34PlacesFrom1To15() {
        refusedFor(INDEX, Edges::busy, (d, n) -> d.zone(false, n), MIN, -1, 0, 16, MAX);
        Couriersday d = new Couriersday();
        d.setZone(15, 2);
        due(0, d.zone(false, 1));
        due(2, d.zone(false, 15));
        // each place from 3 on is no zone, but a place
        due(0, d.zone(false, 3));
    }

    static void p34TheLoadIsOfThoseThatWait() {
        Couriersday d = day(Edges::busy);
        // 10 at 1 and 13 at 4; 12 at 3 of the zone 1; 11 at 2 of the zone 2
        due(23, d.zone(true, 0));
        due(12, d.zone(true, 1));
        due(11, d.zone(true, 2));
        d.door(0, true);
        due(13, d.zone(true, 0));
        Couriersday e = new Couriersday();
        for (int parcel = 0; parcel < 9; parcel++) {
            e.parcel(15, 100, 0);
        }
        due(900, e.zone(true, 0));
        e.setZone(15, 2);
        due(0, e.zone(true, 0));
        due(900, e.zone(true, 2));
    }
}
