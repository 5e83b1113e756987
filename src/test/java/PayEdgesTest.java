/** The edges of promises 35 to 43: shares, pay, the books, and the measures. */
public final class PayEdgesTest extends Edges {
    public static void main(String[] args) {
        run(PayEdgesTest.class);
    }

    /** One parcel of 10 for each sender, at 1, 2 and 3 of a line, and a van with room for so much. */
    private static Couriersday senders(int room) {
        return day(d -> threeSenders(d, room));
    }

    private static void threeSenders(Couriersday d, int room) {
        for (int place = 0; place < 3; place++) {
            both(d, place, place + 1, 10);
        }
        d.van(room, 480, 1200);
        for (int sender = 0; sender < 3; sender++) {
            d.parcel(sender + 1, 10, sender);
        }
    }

    private static void room29(Couriersday d) {
        threeSenders(d, 29);
    }

    private static void withoutVan(Couriersday d) {
        both(d, 0, 1, 10);
        d.parcel(1, 10, 0);
    }

    private static void fullBooks(Couriersday d) {
        busy(d);
        for (int count = 1; count < 50; count++) {
            d.pay(0, count);
        }
        d.door(0, true);
    }

    // ---- 35: together

    static void p35SetsFrom0To7() {
        refusedFor(ARGUMENT, Edges::busy, (d, n) -> d.together(n), MIN, -1, 8, MAX);
        int[] told = {0, 20, 40, 40, 60, 60, 60, 60};
        for (int set = 0; set <= 7; set++) {
            due(told[set], senders(30).together(set));
            int asked = set;
            asked(Edges::busy, d -> d.together(asked));
        }
    }

    static void p35ThereIsAVan() {
        refusedFor(STATE, PayEdgesTest::withoutVan, (d, n) -> d.together(n), 0, 1, 7);
        // out of range is listed first
        refusedFor(ARGUMENT, PayEdgesTest::withoutVan, (d, n) -> d.together(n), -1, 8);
        Couriersday d = day(PayEdgesTest::withoutVan);
        d.van(10, 480, 500);
        due(20, d.together(1));
    }

    static void p35ThereIsARoundThatIsKept() {
        refused(ELEMENT, PayEdgesTest::room29, d -> d.together(7));
        due(60, senders(29).together(6));
        due(60, senders(30).together(7));
        // by being back in time
        Couriersday d = line(1);
        d.van(10, 480, 499);
        d.van(900, 0, 2000);
        d.parcel(1, 10, 1);
        check(answer(d, x -> x.together(2)).equals("NoSuchElementException"), "it is back in time");
        due(0, d.together(5));
        // by a window, by the D
        refused(ELEMENT, x -> {
            both(x, 0, 1, 10);
            x.van(10, 480, 900);
            x.parcel(1, 1, 2);
            x.window(0, 0, 489, 0);
        }, x -> x.together(4));
        refused(ELEMENT, x -> {
            x.van(10, 480, 900);
            x.parcel(1, 1, 2);
        }, x -> x.together(7));
        // there, but not back; back, but not there
        refused(ELEMENT, x -> {
            x.street(0, 1, 1, 1, 0);
            x.van(10, 480, 900);
            x.parcel(1, 1, 0);
        }, x -> x.together(1));
        refused(ELEMENT, x -> {
            x.street(1, 0, 1, 1, 0);
            x.van(10, 480, 900);
            x.parcel(1, 1, 0);
        }, x -> x.together(1));
    }

    static void p35NothingWithoutParcels() {
        Couriersday d = day(x -> x.van(1, 0, 0));
        for (int set = 0; set <= 7; set++) {
            due(0, d.together(set));
        }
        // of the sender 1 alone there are parcels
        Couriersday e = line(1);
        e.van(10, 480, 900);
        e.parcel(1, 10, 1);
        int[] told = {0, 0, 20, 20, 0, 0, 20, 20};
        for (int set = 0; set <= 7; set++) {
            due(told[set], e.together(set));
        }
    }

    static void p35AllThatWaitInARoundOrNot() {
        Couriersday d = senders(30);
        d.van(900, 600, 1200);
        d.put(1, 0, 2);
        d.put(0, 0, 0);
        due(60, d.together(7));
        d.door(2, true);
        due(40, d.together(7));
        due(0, d.together(4));
        d.door(0, false);
        due(20, d.together(1));
        d.door(0, false);
        d.door(0, false);
        due(0, d.together(1));
        due(40, d.together(7));
    }

    static void p35AllNine() {
        Couriersday d = line(9);
        d.van(90, 0, 180);
        for (int parcel = 0; parcel < 9; parcel++) {
            d.parcel(parcel + 1, 10, parcel % 3);
        }
        due(180, d.together(7));
        due(140, d.together(1));
        due(160, d.together(2));
        d.van(900, 0, 2000);
        due(180, d.together(4));
    }

    // ---- 36: share

    static void p36TheSenderIsThere() {
        refusedFor(INDEX, Edges::busy, (d, n) -> d.share(n), MIN, -1, 3, MAX);
        refusedFor(INDEX, PayEdgesTest::withoutVan, (d, n) -> d.share(n), -1, 3);
        refusedFor(INDEX, PayEdgesTest::room29, (d, n) -> d.share(n), -1, 3);
        int[] told = {40, 100, 220};
        for (int sender = 0; sender <= 2; sender++) {
            due(told[sender], senders(30).share(sender));
            int asked = sender;
            asked(Edges::busy, d -> d.share(asked));
        }
    }

    static void p36ThereIsAVan() {
        refusedFor(STATE, PayEdgesTest::withoutVan, (d, n) -> d.share(n), 0, 1, 2);
        refusedFor(STATE, Edges::nothing, (d, n) -> d.share(n), 0, 1, 2);
    }

    static void p36EachSetOfSendersHasARound() {
        // all three alone have no room, or one that is not asked for can't be come to
        refusedFor(ELEMENT, PayEdgesTest::room29, (d, n) -> d.share(n), 0, 1, 2);
        for (int sender = 0; sender < 3; sender++) {
            int its = sender;
            refusedFor(ELEMENT, d -> {
                threeSenders(d, 900);
                d.parcel(15, 1, its);
            }, (d, n) -> d.share(n), 0, 1, 2);
        }
    }

    static void p36WithoutParcels() {
        Couriersday d = day(x -> x.van(1, 0, 0));
        for (int sender = 0; sender < 3; sender++) {
            due(0, d.share(sender));
        }
        // one alone bears all
        for (int sender = 0; sender < 3; sender++) {
            Couriersday e = line(1);
            e.van(10, 480, 900);
            e.parcel(1, 10, sender);
            for (int other = 0; other < 3; other++) {
                due(other == sender ? 120 : 0, e.share(other));
            }
        }
    }

    static void p36OverAllSixOrders() {
        // 20 alone, 40 alone, 60 alone; by orders 012 021 102 120 201 210
        Couriersday d = senders(30);
        due(20 + 20 + 0 + 0 + 0 + 0, d.share(0));
        due(20 + 0 + 40 + 40 + 0 + 0, d.share(1));
        due(20 + 40 + 20 + 20 + 60 + 60, d.share(2));
        due(6 * 60, d.share(0) + d.share(1) + d.share(2));
    }

    // ---- 37: blocks

    static void p37ThereIsAVan() {
        refused(STATE, PayEdgesTest::withoutVan, d -> d.blocks());
        refused(STATE, Edges::nothing, d -> d.blocks());
        asked(Edges::busy, d -> d.blocks());
    }

    static void p37EachSetOfSendersHasARound() {
        refused(ELEMENT, PayEdgesTest::room29, d -> d.blocks());
        refused(ELEMENT, d -> {
            threeSenders(d, 900);
            d.parcel(15, 1, 1);
        }, d -> d.blocks());
    }

    static void p37NoneBlocks() {
        due(0, day(d -> d.van(1, 0, 0)).blocks());
        due(0, senders(30).blocks());
        // one that bears all bears as much as it costs, which is not more
        Couriersday d = line(1);
        d.van(10, 480, 900);
        d.parcel(1, 10, 2);
        due(0, d.blocks());
    }

    private static final int[][] ORDERS = {{0, 1, 2}, {0, 2, 1}, {1, 0, 2}, {1, 2, 0}, {2, 0, 1}, {2, 1, 0}};

    static void p37EachSetOfOneOrTwoBlocks() {
        // a near door and two far ones: alone 2 and 70, together 112; the shares are 22 and 90
        for (int[] order : ORDERS) {
            Couriersday d = new Couriersday();
            both(d, 0, 1, 20);
            both(d, 0, 2, 1);
            d.van(100, 0, 2000);
            d.parcel(2, 1, order[0]);
            d.parcel(1, 1, order[1]);
            d.parcel(1, 1, order[1]);
            d.window(0, 0, 45, 0);
            d.window(1, 20, 20, 0);
            d.window(2, 20, 65, 30);
            due(132, d.share(order[0]));
            due(540, d.share(order[1]));
            due(0, d.share(order[2]));
            int first = 1 << order[0];
            int second = 1 << order[1];
            int third = 1 << order[2];
            due(1 << first | 1 << second | 1 << (first | third) | 1 << (second | third), d.blocks());
        }
    }

    static void p37MoreThanTheyCostNotAsMuch() {
        for (int[] order : ORDERS) {
            for (int service = 37; service <= 38; service++) {
                Couriersday d = new Couriersday();
                for (int place = 1; place <= 3; place++) {
                    both(d, 0, place, 10);
                    both(d, place, place % 3 + 1, 1);
                    d.parcel(place, 1, order[place - 1]);
                }
                d.van(100, 0, 2000);
                d.window(0, 70, 1439, 0);
                d.window(1, 0, 1439, 59);
                d.window(2, 0, 1439, service);
                int pair = 1 << order[0] | 1 << order[1];
                due(80, d.together(pair));
                due(service == 37 ? 480 : 481, d.share(order[0]) + d.share(order[1]));
                due(service == 37 ? 0 : 1 << pair, d.blocks());
            }
        }
    }

    // ---- 38: rates

    static void p38ParcelFrom0To9999() {
        refusedFor(ARGUMENT, Edges::busy, (d, n) -> d.rates(n, 10), MIN, -1, 10000, MAX);
        Couriersday d = new Couriersday();
        due(100, d.rates(0, 10));
        due(0, d.rates(9999, 10));
        due(9999, d.rates(0, 10));
    }

    static void p38MetersFrom0To9999() {
        refusedFor(ARGUMENT, Edges::busy, (d, n) -> d.rates(10, n), MIN, -1, 10000, MAX);
        Couriersday d = new Couriersday();
        due(100, d.rates(10, 0));
        due(0, d.pay(9000000, 0));
        due(10, d.rates(10, 9999));
        due(9999, d.pay(1000, 0));
        due(89991000, d.pay(9000000, 0));
    }

    static void p38AtFirst100And50() {
        Couriersday d = lineWith(1, 1);
        deliver(d, 0);
        due(100 + 50, d.pay(1000, 0));
        due(100, d.rates(0, 0));
    }

    // ---- 39: pay

    static void p39MetersFrom0To9000000() {
        refusedFor(ARGUMENT, Edges::busy, (d, n) -> d.pay(n, 0), MIN, -1, 9000001, MAX);
        due(0, new Couriersday().pay(0, 0));
        due(450000, new Couriersday().pay(9000000, 0));
    }

    static void p39TipFrom0To99999() {
        refusedFor(ARGUMENT, Edges::busy, (d, n) -> d.pay(0, n), MIN, -1, 100000, MAX);
        due(0, new Couriersday().pay(0, 0));
        due(99999, new Couriersday().pay(0, 99999));
    }

    static void p39AtMost50() {
        refused(STATE, PayEdgesTest::fullBooks, d -> d.pay(0, 0));
        refused(STATE, PayEdgesTest::fullBooks, d -> d.pay(9000000, 99999));
        refused(ARGUMENT, PayEdgesTest::fullBooks, d -> d.pay(-1, 0));
        refused(ARGUMENT, PayEdgesTest::fullBooks, d -> d.pay(0, 100000));
        Couriersday d = new Couriersday();
        for (int count = 0; count < 50; count++) {
            due(count, d.pay(0, count));
        }
        due(0, d.books(0));
        due(49, d.books(49));
        due(49 * 50 / 2, d.books(NONE));
    }

    static void p39TheMostThatIsPaid() {
        Couriersday d = line(1);
        d.van(900, 480, 900);
        for (int parcel = 0; parcel < 9; parcel++) {
            d.parcel(1, 100, 0);
            deliver(d, parcel);
        }
        d.rates(9999, 9999);
        due(9 * 9999 + 89991000 + 99999, d.pay(9000000, 99999));
        // for each parcel once
        due(99999, d.pay(0, 99999));
    }

    static void p39HalfACentUp() {
        Couriersday d = new Couriersday();
        int[][] told = {{0, 0}, {1, 0}, {9, 0}, {10, 1}, {11, 1}, {29, 1}, {30, 2}, {49, 2}, {50, 3}, {999, 50},
            {1000, 50}, {1009, 50}, {1010, 51}};
        for (int[] one : told) {
            due(one[1], d.pay(one[0], 0));
        }
        d.rates(0, 1);
        due(0, d.pay(499, 0));
        due(1, d.pay(500, 0));
        due(1, d.pay(1499, 0));
        due(2, d.pay(1500, 0));
        d.rates(0, 9999);
        due(10, d.pay(1, 0));
        due(90, d.pay(9, 0));
        due(500, d.pay(50, 0));
    }

    static void p39SinceTheLatestPayment() {
        Couriersday d = lineWith(1, 1, 1, 1, 1);
        due(0, d.pay(0, 0));
        deliver(d, 0);
        deliver(d, 1);
        d.put(0, 0, 2);
        d.door(2, false);
        due(200, d.pay(0, 0));
        due(0, d.pay(0, 0));
        due(1, d.door(2, true));
        due(100, d.pay(0, 0));
        // a refused payment pays for nothing
        deliver(d, 3);
        answer(d, x -> x.pay(-1, 0));
        answer(d, x -> x.pay(0, -1));
        due(100, d.pay(0, 0));
    }

    // ---- 40: books

    static void p40ThereIsSuchAPayment() {
        refusedFor(ELEMENT, Edges::busy, (d, n) -> d.books(n), MIN, -2, 1, 2, 50, MAX);
        refusedFor(ELEMENT, Edges::nothing, (d, n) -> d.books(n), -2, 0, 1);
        refusedFor(ELEMENT, PayEdgesTest::fullBooks, (d, n) -> d.books(n), -2, 50, 51);
        Couriersday d = day(PayEdgesTest::fullBooks);
        due(120 + 175 + 33, d.books(0));
        for (int index = 1; index < 50; index++) {
            due(index == 1 ? 121 : index, d.books(index));
        }
        asked(Edges::busy, x -> x.books(0));
    }

    static void p40NoneForTheSumOfAll() {
        due(0, new Couriersday().books(NONE));
        due(328, day(Edges::busy).books(NONE));
        asked(Edges::busy, x -> x.books(NONE));
        Couriersday d = new Couriersday();
        d.rates(0, 9999);
        for (int count = 1; count <= 50; count++) {
            d.pay(9000000, 99999);
            due(count * 90090999L, d.books(NONE));
        }
    }

    // ---- 41: meanPay

    static void p41WithoutPayments() {
        check(new Couriersday().meanPay() == 0.0, "meanPay() is " + new Couriersday().meanPay());
        check(1 / new Couriersday().meanPay() > 0, "meanPay() is below 0");
        asked(Edges::nothing, d -> d.meanPay());
    }

    static void p41SumByNumber() {
        Couriersday d = new Couriersday();
        d.pay(0, 0);
        check(d.meanPay() == 0.0, "meanPay() is " + d.meanPay());
        d.pay(0, 1);
        check(d.meanPay() == 0.5, "meanPay() is " + d.meanPay());
        d.pay(0, 0);
        check(d.meanPay() == 1.0 / 3.0, "meanPay() is " + d.meanPay());
        d.rates(0, 9999);
        while (!answer(d, x -> x.pay(9000000, 99999)).equals("IllegalStateException")) {
            check(d.meanPay() > 1.0, "meanPay() is " + d.meanPay());
        }
        check(d.meanPay() == (double) (47 * 90090999L + 1) / 50.0, "meanPay() is " + d.meanPay());
        asked(Edges::busy, x -> x.meanPay());
    }

    // ---- 42: filled

    static void p42TheVanIsThere() {
        refusedFor(INDEX, Edges::busy, (d, n) -> d.filled(n), MIN, -1, 2, 3, MAX);
        refused(INDEX, Edges::nothing, d -> d.filled(0));
        asked(Edges::busy, d -> d.filled(1));
    }

    static void p42FromEmptyToFull() {
        for (int room : new int[] {1, 3, 7, 30, 900}) {
            Couriersday d = line(1);
            d.van(900, 480, 900);
            d.van(room, 480, 900);
            d.parcel(1, 1, 0);
            check(d.filled(1) == 0.0f, "filled(1) is " + d.filled(1));
            d.put(1, 0, 0);
            check(d.filled(1) == 1.0f / (float) room, "filled(1) is " + d.filled(1));
            check(d.filled(0) == 0.0f, "filled(0) is " + d.filled(0));
        }
        Couriersday d = line(1);
        d.van(100, 480, 900);
        d.parcel(1, 100, 0);
        d.put(0, 0, 0);
        check(d.filled(0) == 1.0f, "filled(0) is " + d.filled(0));
    }

    // ---- 43: errors

    static void p43Always0() {
        due(0, new Couriersday().errors());
        due(0, day(Edges::idle).errors());
        due(0, day(Edges::busy).errors());
        due(0, day(PayEdgesTest::fullBooks).errors());
        due(0, senders(30).errors());
        // shares that are not told, a row that is not lawful, one that may be driven no more
        due(0, senders(29).errors());
        Couriersday d = day(Edges::busy);
        d.piece(DRIVE, 100);
        due(0, d.errors());
        d.piece(DRIVE, 1);
        due(0, d.errors());
        asked(Edges::busy, x -> x.errors());
    }

    static void p43WithRulesUpTo900() {
        Couriersday d = new Couriersday();
        d.rules(600, 5, 900);
        due(0, d.errors());
        d.rules(30, 120, 899);
        due(0, d.errors());
        d.rules(30, 120, 60);
        d.piece(DRIVE, 30);
        d.piece(REST, 119);
        due(0, d.errors());
    }

    static void p43WithARowThatIsNotLawfulFromItsFirstPieceOn() {
        Couriersday d = new Couriersday();
        d.piece(DRIVE, 271);
        due(0, d.unlawful());
        due(0, d.errors());
        d.piece(REST, 600);
        due(0, d.errors());
    }

    static void p43WithTreesAndPairings() {
        // a star, a line and a ring, each with up to nine doors, all ways the same both ways
        for (int doors = 1; doors <= 9; doors++) {
            Couriersday star = new Couriersday();
            Couriersday ring = new Couriersday();
            Couriersday line = line(doors);
            both(ring, 0, doors, 3);
            for (int door = 1; door <= doors; door++) {
                both(star, 0, door, door);
                both(ring, door - 1, door, 11 - door);
            }
            for (Couriersday d : new Couriersday[] {star, ring, line}) {
                d.van(900, 0, 2000);
                for (int door = 1; door <= doors; door++) {
                    d.parcel(door, 1, door % 3);
                    d.put(0, door / 2, door - 1);
                    due(0, d.errors());
                }
                check(d.ofRound(0, 6) <= d.ofRound(0, 1), "the tree is above the driving");
                d.exact(0);
                due(0, d.errors());
                check(d.ofRound(0, 8) <= d.ofRound(0, 0), "the bound is above the cost");
            }
        }
    }

    static void p43WhereWaysDoNotTakeTheSameBothWays() {
        // the pairing counts the lesser way: it may be above half of the driving
        Couriersday d = new Couriersday();
        for (int place = 0; place < 10; place++) {
            d.street(place, (place + 1) % 10, 1, 1, 0);
            d.street((place + 1) % 10, place, 100, 1, 0);
        }
        d.van(900, 0, 2000);
        for (int place = 1; place < 10; place++) {
            d.parcel(place, 1, 0);
        }
        due(9, d.savings(0));
        due(0, d.errors());
        d.exact(0);
        due(10, d.ofRound(0, 0));
        due(0, d.errors());
    }

    static void p43InAllTheFull() {
        Couriersday d = new Couriersday();
        for (int i = 0; i < 60; i++) {
            d.street(i * 7 % 10, (i * 7 + 1 + i / 10) % 10, 1 + i * 11 % 120, 1 + i, i);
        }
        for (int van = 0; van < 3; van++) {
            d.van(900, 480, 2000);
        }
        for (int parcel = 0; parcel < 9; parcel++) {
            d.parcel(parcel + 1, 100, parcel % 3);
            d.putIn(parcel);
        }
        due(0, d.errors());
        for (int van = 0; van < 3; van++) {
            d.better(van);
            due(0, d.errors());
            d.exact(van);
            due(0, d.errors());
        }
    }
}
