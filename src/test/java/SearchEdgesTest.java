import java.util.ArrayList;
import java.util.Arrays;
import java.util.List;

/** The edges of promises 17, 18 and 20: rounds that are bettered, exact ones, and what a round comes to. */
public final class SearchEdgesTest extends Edges {
    public static void main(String[] args) {
        run(SearchEdgesTest.class);
    }

    /** Streets one way round a ring, and parcels at its places but the depot. */
    private static Couriersday ring(int places) {
        Couriersday d = new Couriersday();
        for (int place = 0; place < places; place++) {
            d.street(place, (place + 1) % places, 10, 1, 0);
        }
        d.van(900, 0, 2000);
        for (int place = 1; place < places; place++) {
            d.parcel(place, 1, 0);
        }
        return d;
    }

    private static void nine(Couriersday d) {
        for (int place = 0; place < 9; place++) {
            both(d, place, place + 1, 10);
        }
        d.van(900, 0, 2000);
        for (int parcel = 0; parcel < 9; parcel++) {
            d.parcel(parcel + 1, 10, 0);
        }
    }

    private static Couriersday streets(int[][] streets) {
        Couriersday d = new Couriersday();
        for (int[] one : streets) {
            d.street(one[0], one[1], one[2], 1, 0);
        }
        d.van(900, 480, 2000);
        return d;
    }

    private static List<int[]> orders(int count) {
        List<int[]> all = new ArrayList<>();
        addOrders(new int[count], 0, all);
        return all;
    }

    private static void addOrders(int[] begun, int length, List<int[]> all) {
        if (length == begun.length) {
            all.add(begun.clone());
            return;
        }
        for (int next = 0; next < begun.length; next++) {
            boolean isIn = false;
            for (int i = 0; i < length; i++) {
                isIn = isIn || begun[i] == next;
            }
            if (!isIn) {
                begun[length] = next;
                addOrders(begun, length + 1, all);
            }
        }
    }

    /** What the round of the van 0 costs in this order; NONE if it is not kept. */
    private static int costOf(Told told, int[] order) {
        Couriersday d = day(told);
        String cost = "0";
        for (int i = 0; i < order.length && !cost.equals("IllegalStateException"); i++) {
            int index = i;
            cost = answer(d, x -> x.put(0, index, order[index]));
        }
        return cost.equals("IllegalStateException") ? NONE : Integer.parseInt(cost);
    }

    /** Of all orders, by rising numbers, the first one of the least cost. */
    private static int[] leastOf(Told told, int count) {
        int[] least = null;
        for (int[] order : orders(count)) {
            int cost = costOf(told, order);
            if (cost != NONE && (least == null || cost < costOf(told, least))) {
                least = order;
            }
        }
        return least;
    }

    /** A day of few streets, with windows and services that let some orders be kept, drawn from a number. */
    private static void drawn(Couriersday d, int seed, int count) {
        int number = seed * 7919 + 13;
        for (int place = 0; place <= count; place++) {
            number = (number * 1103515245 + 12345) & MAX;
            d.street(place, (place + 1) % (count + 1), 1 + (number >> 8) % 9, 1, 0);
            d.street((place + 1) % (count + 1), place, 1 + (number >> 12) % 9, 1, 0);
        }
        d.van(900, 480, seed % 3 == 0 ? 480 + 45 + seed % 7 : 2000);
        for (int parcel = 0; parcel < count; parcel++) {
            number = (number * 1103515245 + 12345) & MAX;
            d.parcel(seed % 4 == 0 ? 1 + parcel / 2 : parcel + 1, 1, 0);
            int open = 480 + (number >> 8) % 40;
            d.window(parcel, (number >> 13) % 3 == 0 ? open : 0, (number >> 16) % 3 == 0 ? open + 9 : 1439,
                    (number >> 19) % 12);
        }
    }

    // ---- 17: better

    static void p17TheVanIsThere() {
        refusedFor(INDEX, Edges::busy, (d, n) -> d.better(n), MIN, -1, 2, 3, MAX);
        refused(INDEX, Edges::nothing, d -> d.better(0));
    }

    static void p17AnEmptyRoundAndOneOfOneParcel() {
        Couriersday d = lineWith(1, 1);
        due(0, d.better(0));
        dueRound(d, 0);
        d.put(0, 0, 0);
        due(0, d.better(0));
        dueRound(d, 0, 0);
    }

    static void p17OfTheSameCostNothingIsBettered() {
        Couriersday d = lineWith(2, 1, 2, 2);
        putAll(d, 0, 2, 1, 0);
        due(0, d.better(0));
        dueRound(d, 0, 2, 1, 0);
    }

    static void p17ByOneMinute() {
        // 0 to 1 and 2 to 0 take 10, the other way round 11 and 10
        Couriersday d = new Couriersday();
        d.street(0, 1, 10, 1, 0);
        d.street(1, 0, 11, 1, 0);
        both(d, 1, 2, 1);
        both(d, 0, 2, 10);
        d.van(100, 480, 1200);
        d.parcel(1, 1, 0);
        d.parcel(2, 1, 0);
        putAll(d, 0, 1, 0);
        due(22, d.ofRound(0, 0));
        due(1, d.better(0));
        dueRound(d, 0, 0, 1);
        due(21, d.ofRound(0, 0));
    }

    static void p17TurningRoundAllOfIt() {
        Couriersday d = ring(5);
        putAll(d, 0, 3, 2, 1, 0);
        due(200, d.ofRound(0, 0));
        due(150, d.better(0));
        dueRound(d, 0, 0, 1, 2, 3);
        due(50, d.ofRound(0, 0));
    }

    static void p17MovingTheFirstToTheEndAndTheLastToTheBegin() {
        Couriersday d = ring(6);
        putAll(d, 0, 4, 0, 1, 2, 3);
        due(120, d.ofRound(0, 0));
        due(60, d.better(0));
        dueRound(d, 0, 0, 1, 2, 3, 4);
        Couriersday e = ring(6);
        putAll(e, 0, 1, 2, 3, 4, 0);
        due(120, e.ofRound(0, 0));
        due(60, e.better(0));
        dueRound(e, 0, 0, 1, 2, 3, 4);
    }

    static void p17OfSeveralTheLeastByNumbers() {
        // three doors with nothing between them: 0 and 1 are at one place, each of 0 1 and 1 0 ahead of 2 or behind it
        Couriersday d = lineWith(2, 1, 1, 2);
        d.window(2, 0, 1439, 1);
        d.window(0, 500, 1439, 0);
        // 2 at 500, 0 and 1 at 511: 521; 0 waits to 500: 2 at 510: 531
        putAll(d, 0, 1, 0, 2);
        due(10 + 10 + 10 + 1 + 20, d.ofRound(0, 0));
        due(10, d.better(0));
        // back at 521: 2 0 1, 2 1 0 and 1 2 0; by one move from 1 0 2: 1 2 0, 2 1 0
        dueRound(d, 0, 1, 2, 0);
    }

    static void p17OnlyRoundsThatAreKept() {
        // the round 0 1 2 would be late for the 1 by a minute: 1 2 0 takes 60 as well
        Couriersday e = lineWith(3, 1, 2, 3);
        e.window(0, 0, 1439, 1);
        e.window(1, 0, 500, 0);
        putAll(e, 0, 1, 0, 2);
        due(81, e.ofRound(0, 0));
        due(20, e.better(0));
        dueRound(e, 0, 1, 2, 0);
        e.takeOut(1);
        e.window(1, 0, 501, 0);
        e.put(0, 0, 1);
        e.turned(0, 1, 3);
        dueRound(e, 0, 1, 0, 2);
        due(20, e.better(0));
        dueRound(e, 0, 0, 1, 2);
    }

    static void p17OfSeveralMovesTheLeastRoundByNumbers() {
        // 0 1 2 by turning all of it round, 1 0 2 by moving one: both take 17
        Couriersday d = streets(new int[][] {{0, 1, 8}, {1, 2, 5}, {2, 3, 2}, {3, 0, 2}, {3, 1, 2}, {0, 2, 4}});
        for (int place = 1; place <= 3; place++) {
            d.parcel(place, 1, 0);
        }
        putAll(d, 0, 2, 1, 0);
        due(25, d.ofRound(0, 0));
        due(8, d.better(0));
        dueRound(d, 0, 0, 1, 2);
        // both ways round a ring take 19
        Couriersday e = streets(new int[][] {{0, 1, 1}, {1, 0, 1}, {1, 2, 9}, {2, 1, 9}, {2, 3, 1}, {3, 2, 1},
            {3, 0, 8}, {0, 3, 8}});
        for (int place = 1; place <= 3; place++) {
            e.parcel(place, 1, 0);
        }
        putAll(e, 0, 1, 0, 2);
        due(16, e.better(0));
        dueRound(e, 0, 0, 1, 2);
    }

    static void p17OfThreeParcelsTheLeastOfAllSixOrders() {
        // each other order is a move away
        for (int seed = 0; seed < 24; seed++) {
            int its = seed;
            Told told = d -> drawn(d, its, 3);
            int[] least = leastOf(told, 3);
            for (int[] order : orders(3)) {
                int cost = costOf(told, order);
                if (cost != NONE) {
                    Couriersday d = day(told);
                    putAll(d, 0, order);
                    due(cost - costOf(told, least), d.better(0));
                    dueRound(d, 0, cost == costOf(told, least) ? order : least);
                }
            }
        }
    }

    static void p17TwoNeighboursOfNineChangePlaces() {
        for (int at = 0; at < 8; at++) {
            Couriersday d = ring(10);
            for (int parcel = 0; parcel < 9; parcel++) {
                d.put(0, parcel, parcel == at ? at + 1 : parcel == at + 1 ? at : parcel);
            }
            due(200, d.ofRound(0, 0));
            due(100, d.better(0));
            dueRound(d, 0, 0, 1, 2, 3, 4, 5, 6, 7, 8);
        }
    }

    static void p17AnEarlierSearchIsNothingToIt() {
        Couriersday d = ring(4);
        both(d, 0, 4, 5);
        d.van(900, 0, 2000);
        d.parcel(4, 1, 0);
        d.parcel(4, 1, 0);
        putAll(d, 0, 2, 1, 0);
        putAll(d, 1, 4, 3);
        due(80, d.better(0));
        dueRound(d, 0, 0, 1, 2);
        due(0, d.better(1));
        dueRound(d, 1, 4, 3);
        d.takeOut(4);
        d.takeOut(3);
        due(2, d.savings(1));
        d.turned(1, 0, 2);
        due(0, d.better(1));
        dueRound(d, 1, 4, 3);
        due(0, d.better(0));
    }

    static void p17AsLongAsSomeMoveGivesLess() {
        // more than one move is needed
        Couriersday d = day(SearchEdgesTest::nine);
        putAll(d, 0, 4, 8, 0, 6, 2, 7, 1, 5, 3);
        int before = d.ofRound(0, 0);
        int less = d.better(0);
        due(before - less, d.ofRound(0, 0));
        due(180, d.ofRound(0, 0));
        due(0, d.better(0));
        due(10, d.undo());
        due(9, d.undo());
        due(before, d.ofRound(0, 0));
    }

    // ---- 18: exact

    static void p18TheVanIsThere() {
        refusedFor(INDEX, Edges::busy, (d, n) -> d.exact(n), MIN, -1, 2, 3, MAX);
        refused(INDEX, Edges::nothing, d -> d.exact(0));
    }

    static void p18AnEmptyRoundAndOneOfOneParcel() {
        Couriersday d = lineWith(1, 1);
        due(0, d.exact(0));
        dueRound(d, 0);
        d.put(0, 0, 0);
        due(20, d.exact(0));
        dueRound(d, 0, 0);
    }

    static void p18OfTheSameCostTheLeastByNumbers() {
        Couriersday d = lineWith(2, 1, 2, 2);
        putAll(d, 0, 2, 1, 0);
        due(40, d.exact(0));
        dueRound(d, 0, 0, 1, 2);
        // nine at one place
        Couriersday e = line(1);
        e.van(900, 480, 500);
        for (int parcel = 8; parcel >= 0; parcel--) {
            e.parcel(1, 100, 0);
        }
        putAll(e, 0, 8, 7, 6, 5, 4, 3, 2, 1, 0);
        due(20, e.exact(0));
        dueRound(e, 0, 0, 1, 2, 3, 4, 5, 6, 7, 8);
    }

    static void p18JustTheseParcels() {
        Couriersday d = lineWith(4, 4, 3, 2, 1);
        d.van(100, 480, 1200);
        putAll(d, 0, 2, 0);
        d.put(1, 0, 3);
        due(80, d.exact(0));
        dueRound(d, 0, 0, 2);
        dueRound(d, 1, 3);
        due(NONE, d.parcelAt(1, 2));
    }

    static void p18AllNine() {
        Couriersday d = ring(10);
        for (int parcel = 8; parcel >= 0; parcel--) {
            d.put(0, 8 - parcel, parcel);
        }
        due(900, d.ofRound(0, 0));
        due(100, d.exact(0));
        dueRound(d, 0, 0, 1, 2, 3, 4, 5, 6, 7, 8);
    }

    static void p18EachOrderOfFour() {
        // all at one door; each opens as the service of the one ahead has ended
        for (int[] order : orders(4)) {
            Told told = d -> {
                both(d, 0, 1, 10);
                d.van(900, 480, 2000);
                for (int parcel = 0; parcel < 4; parcel++) {
                    d.parcel(1, 1, 0);
                }
                for (int i = 0; i < 4; i++) {
                    d.window(order[i], 490 + 10 * i, 1439, 10);
                }
            };
            for (int[] begun : new int[][] {{0, 1, 2, 3}, {3, 2, 1, 0}, {1, 3, 0, 2}}) {
                Couriersday d = day(told);
                putAll(d, 0, begun);
                due(60, d.exact(0));
                dueRound(d, 0, order);
                due(60, d.together(7));
            }
        }
    }

    static void p18TheLeastOfAllThatAreKept() {
        for (int seed = 0; seed < 24; seed++) {
            int its = seed;
            Told told = d -> drawn(d, its, 4);
            int[] least = leastOf(told, 4);
            for (int[] order : orders(4)) {
                if (costOf(told, order) != NONE) {
                    Couriersday d = day(told);
                    putAll(d, 0, order);
                    due(costOf(told, least), d.exact(0));
                    dueRound(d, 0, least);
                    due(d.ofRound(0, 0), d.together(7));
                    due(0, d.errors());
                }
            }
            if (least == null) {
                String got = answer(day(told), d -> d.together(1));
                check(got.equals("NoSuchElementException"), "answered " + got + " for " + Arrays.toString(least));
            }
        }
    }

    static void p18JustKept() {
        // the 0 ahead of the 1 only if the 1 is not late
        for (int to = 499; to <= 500; to++) {
            Couriersday d = lineWith(2, 1, 2);
            d.window(1, 0, to + 1, 0);
            d.window(0, 0, 1439, 1);
            putAll(d, 0, 1, 0);
            due(41, d.exact(0));
            int[] due = to == 499 ? new int[] {1, 0} : new int[] {0, 1};
            dueRound(d, 0, due);
        }
        // and only if it is back in time, where it waits
        for (int back = 530; back <= 531; back++) {
            Couriersday d = line(2);
            d.van(100, 480, back);
            d.parcel(1, 10, 0);
            d.parcel(2, 10, 0);
            d.window(0, 490, 520, 0);
            d.window(1, 510, 520, 0);
            putAll(d, 0, 0, 1);
            due(50, d.exact(0));
            dueRound(d, 0, 0, 1);
        }
    }

    // ---- 20: ofRound

    static void p20TheVanIsThere() {
        refusedFor(INDEX, Edges::busy, (d, n) -> d.ofRound(n, 0), MIN, -1, 2, 3, MAX);
        refusedFor(INDEX, Edges::busy, (d, n) -> d.ofRound(n, 9), -1, 2);
        refused(INDEX, Edges::nothing, d -> d.ofRound(0, 0));
    }

    static void p20WhatFrom0To8() {
        refusedFor(ARGUMENT, Edges::busy, (d, n) -> d.ofRound(0, n), MIN, -1, 9, MAX);
        refusedFor(ARGUMENT, Edges::idle, (d, n) -> d.ofRound(1, n), -1, 9);
        for (int what = 0; what <= 8; what++) {
            int asked = what;
            asked(Edges::busy, d -> d.ofRound(0, asked));
        }
    }

    static void p20AnEmptyRound() {
        for (int what = 0; what <= 8; what++) {
            due(0, day(Edges::idle).ofRound(0, what));
            due(0, day(d -> d.van(1, 1439, 1439)).ofRound(0, what));
        }
    }

    static void p20OneParcel() {
        Couriersday d = new Couriersday();
        d.street(0, 1, 10, 1000, 3);
        d.street(1, 0, 12, 900, 7);
        d.van(100, 480, 1200);
        d.parcel(1, 11, 0);
        d.window(0, 495, 600, 6);
        d.put(0, 0, 0);
        int[] told = {33, 22, 5, 1900, 10, 11, 10, 20, 16};
        for (int what = 0; what <= 8; what++) {
            due(told[what], d.ofRound(0, what));
        }
    }

    static void p20AllNine() {
        Couriersday d = day(SearchEdgesTest::nine);
        for (int parcel = 0; parcel < 9; parcel++) {
            d.window(parcel, 0, 1439, 60);
            d.put(0, parcel, parcel);
        }
        int[] told = {180 + 540, 180, 0, 18000, 0, 90, 90, 180, 90 + 540};
        for (int what = 0; what <= 8; what++) {
            due(told[what], d.ofRound(0, what));
        }
    }

    static void p20NoWaitingNoService() {
        Couriersday d = lineWith(2, 1, 1, 2);
        d.window(0, 490, 490, 0);
        d.window(1, 491, 491, 0);
        putAll(d, 0, 0, 1, 2);
        due(41, d.ofRound(0, 0));
        due(40, d.ofRound(0, 1));
        due(1, d.ofRound(0, 2));
        due(20, d.ofRound(0, 8));
    }

    static void p20EachPlaceOnceInTheTree() {
        Couriersday d = lineWith(2, 2, 2, 2, 2);
        putAll(d, 0, 0, 1, 2, 3);
        due(20, d.ofRound(0, 6));
        due(40, d.ofRound(0, 7));
        due(20, d.ofRound(0, 8));
    }

    static void p20TheLesserDOfBothWays() {
        Couriersday d = new Couriersday();
        d.street(0, 1, 30, 1, 0);
        d.street(1, 0, 7, 1, 0);
        d.street(1, 2, 5, 1, 0);
        d.street(2, 1, 40, 1, 0);
        d.street(2, 0, 100, 1, 0);
        d.van(100, 0, 2000);
        d.parcel(1, 1, 0);
        d.parcel(2, 1, 0);
        putAll(d, 0, 0, 1);
        // 1 with the depot by 7, 1 with 2 by 5; 2 with the depot by 35 and 47
        due(12, d.ofRound(0, 6));
        due(12 + 35, d.ofRound(0, 7));
    }

    static void p20OfSeveralTreesThatOfTheLesserPlaces() {
        // for the same weight by the lesser place, then the other one: any other order here makes a pairing of 2
        Couriersday d = new Couriersday();
        int[][] streets = {{1, 2, 2}, {4, 3, 1}, {0, 2, 2}, {0, 3, 2}, {1, 0, 3}, {1, 3, 1}, {0, 4, 2}};
        for (int[] one : streets) {
            both(d, one[0], one[1], one[2]);
        }
        d.van(100, 0, 2000);
        for (int place = 4; place >= 1; place--) {
            d.parcel(place, 1, 0);
        }
        putAll(d, 0, 2, 0, 1, 3);
        due(6, d.ofRound(0, 6));
        due(6 + 3, d.ofRound(0, 7));
        // the order of the parcels and of their numbers is nothing to it
        d.turned(0, 0, 4);
        due(6 + 3, d.ofRound(0, 7));
        d.exact(0);
        due(6 + 3, d.ofRound(0, 7));
    }

    static void p20PairingsOfTwoFourAndTenDoors() {
        // a star: 2, 4, 4, 6, 6, .. odd doors, each two of them 20 from one another, 10 from the depot
        int[] told = {20, 40, 60, 80, 100, 120, 140, 160, 180};
        for (int arms = 1; arms <= 9; arms++) {
            Couriersday d = new Couriersday();
            d.van(900, 0, 2000);
            for (int arm = 0; arm < arms; arm++) {
                both(d, 0, arm + 1, 10);
                d.parcel(arm + 1, 1, 0);
            }
            for (int arm = 0; arm < arms; arm++) {
                d.put(0, arm, arm);
            }
            due(arms * 10, d.ofRound(0, 6));
            due(told[arms - 1], d.ofRound(0, 7));
        }
    }
}
