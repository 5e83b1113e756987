import java.util.ArrayList;
import java.util.Collections;
import java.util.List;

/** The edges of promises 10 to 16, 19 and 21 to 23: rounds that are told, what is asked of them, and undone. */
public final class RoundEdgesTest extends Edges {
    public static void main(String[] args) {
        run(RoundEdgesTest.class);
    }

    /** Parcels 0 to 3 in the round of the van 0 as they stand along a line; the van 1 has an empty round. */
    private static void four(Couriersday d) {
        for (int place = 0; place < 4; place++) {
            both(d, place, place + 1, 10);
        }
        d.van(100, 480, 1200);
        d.van(35, 480, 1200);
        for (int place = 1; place <= 4; place++) {
            d.parcel(place, 10, 0);
        }
        putAll(d, 0, 0, 1, 2, 3);
    }

    /** Nine parcels along a line, in the round of the van 0. */
    private static void nine(Couriersday d) {
        for (int place = 0; place < 9; place++) {
            both(d, place, place + 1, 10);
        }
        d.van(900, 0, 2000);
        d.van(900, 0, 2000);
        for (int parcel = 0; parcel < 9; parcel++) {
            d.parcel(parcel + 1, 10, 0);
            d.put(0, parcel, parcel);
        }
    }

    private static void dueThrown(Class<?> kind, Couriersday d, Call call) {
        String got = answer(d, call);
        check(got.equals(kind.getSimpleName()), "answered " + got + ", due is " + kind.getSimpleName());
    }

    // ---- 10: put

    static void p10TheVanIsThere() {
        refusedFor(INDEX, Edges::busy, (d, n) -> d.put(n, 0, 3), MIN, -1, 2, 3, MAX);
        refused(INDEX, Edges::nothing, d -> d.put(0, 0, 0));
        Couriersday d = day(Edges::busy);
        d.van(100, 480, 900);
        due(60 + 1 + 40, d.put(2, 0, 3));
        dueRound(d, 2, 3);
    }

    static void p10TheParcelIsThere() {
        refusedFor(INDEX, Edges::busy, (d, n) -> d.put(0, 0, n), MIN, -1, 8, 9, MAX);
    }

    static void p10IndexFrom0ToTheNumberOfParcels() {
        refusedFor(INDEX, Edges::busy, (d, n) -> d.put(0, n, 3), MIN, -1, 3, 9, MAX);
        refusedFor(INDEX, Edges::idle, (d, n) -> d.put(0, n, 3), MIN, -1, 1, MAX);
        int[][] due = {{3, 0, 1, 2}, {0, 3, 1, 2}, {0, 1, 3, 2}, {0, 1, 2, 3}};
        for (int index = 0; index <= 3; index++) {
            Couriersday d = lineWith(3, 1, 2, 3, 1);
            putAll(d, 0, 0, 1, 2);
            d.put(0, index, 3);
            dueRound(d, 0, due[index]);
        }
    }

    static void p10TheParcelIsWaiting() {
        // DELIVERED and paid, DELIVERED, in a locker, BACK
        refusedFor(STATE, Edges::idle, (d, n) -> d.put(0, 0, n), 4, 5, 6, 7);
        refusedFor(STATE, Edges::busy, (d, n) -> d.put(1, 1, n), 4, 5, 6, 7);
    }

    static void p10TheParcelIsInNoRound() {
        // that of the van itself, that of another one
        refusedFor(STATE, Edges::busy, (d, n) -> d.put(0, 0, n), 0, 1, 2);
        refusedFor(STATE, Edges::busy, (d, n) -> d.put(1, 0, n), 0, 1, 2);
    }

    static void p10TheExceptionListedFirst() {
        refused(INDEX, Edges::busy, d -> d.put(2, 0, 4));
        refused(INDEX, Edges::busy, d -> d.put(0, 3, 0));
        refused(INDEX, Edges::busy, d -> d.put(0, -1, 4));
        refused(INDEX, Edges::busy, d -> d.put(0, -1, 8));
    }

    static void p10EachDIsThere() {
        // from the depot, back to it
        Told out = d -> {
            d.street(0, 1, 5, 1, 0);
            d.street(2, 0, 5, 1, 0);
            d.van(100, 0, 2000);
            d.parcel(1, 1, 0);
            d.parcel(2, 1, 0);
        };
        refused(STATE, out, d -> d.put(0, 0, 0));
        refused(STATE, out, d -> d.put(0, 0, 1));
        Couriersday d = day(out);
        d.street(1, 2, 5, 1, 0);
        due(15, d.put(0, 0, 1));
        due(15, d.put(0, 0, 0));
    }

    static void p10EachServiceBeginsWithinItsWindow() {
        // the first parcel is late by a minute, the last one is, one behind the new one is
        for (int late = 0; late <= 1; late++) {
            int to = 500 - late;
            Told told = d -> {
                both(d, 0, 1, 10);
                both(d, 1, 2, 10);
                d.van(100, 480, 1200);
                d.parcel(2, 10, 0);
                d.parcel(1, 10, 0);
                d.parcel(1, 10, 0);
                d.window(0, 0, to, 0);
                d.window(1, 0, 1439, 1);
            };
            if (late == 0) {
                due(40, day(told).put(0, 0, 0));
                Couriersday d = day(told);
                due(40, d.put(0, 0, 0));
                due(40, d.put(0, 0, 2));
                dueThrown(STATE, d, x -> x.put(0, 0, 1));
                due(41, d.put(0, 2, 1));
            } else {
                refused(STATE, told, d -> d.put(0, 0, 0));
            }
        }
    }

    static void p10TheSizesAreNotAboveTheRoom() {
        for (int room = 59; room <= 60; room++) {
            int its = room;
            Told told = d -> {
                both(d, 0, 1, 10);
                d.van(its, 480, 1200);
                d.parcel(1, 10, 0);
                d.parcel(1, 20, 0);
                d.parcel(1, 30, 0);
                putAll(d, 0, 0, 1);
            };
            if (room == 60) {
                due(20, day(told).put(0, 1, 2));
            } else {
                refused(STATE, told, d -> d.put(0, 1, 2));
            }
        }
    }

    static void p10TheVanIsBackInTime() {
        for (int back = 519; back <= 520; back++) {
            int its = back;
            Told told = d -> {
                both(d, 0, 1, 10);
                both(d, 1, 2, 10);
                d.van(100, 480, its);
                d.parcel(1, 10, 0);
                d.parcel(2, 10, 0);
                d.put(0, 0, 0);
            };
            if (back == 520) {
                due(40, day(told).put(0, 1, 1));
                due(40, day(told).put(0, 0, 1));
            } else {
                refused(STATE, told, d -> d.put(0, 1, 1));
                refused(STATE, told, d -> d.put(0, 0, 1));
            }
        }
        // waiting and service count
        Couriersday d = lineWith(1, 1);
        d.window(0, 1180, 1439, 10);
        due(720, d.put(0, 0, 0));
        d.takeOut(0);
        d.window(0, 1180, 1439, 11);
        dueThrown(STATE, d, x -> x.put(0, 0, 0));
        d.window(0, 1181, 1439, 10);
        dueThrown(STATE, d, x -> x.put(0, 0, 0));
    }

    static void p10AllNineInOneRound() {
        Couriersday d = day(RoundEdgesTest::nine);
        due(9, d.roundAt(0, NONE));
        due(180, d.ofRound(0, 0));
        refusedFor(STATE, RoundEdgesTest::nine, (x, n) -> x.put(0, n, 0), 0, 9);
        refusedFor(INDEX, RoundEdgesTest::nine, (x, n) -> x.put(0, n, 0), -1, 10);
        refused(STATE, RoundEdgesTest::nine, x -> x.put(1, 0, 8));
    }

    // ---- 11: takeOut

    static void p11TheParcelIsThere() {
        refusedFor(INDEX, Edges::busy, (d, n) -> d.takeOut(n), MIN, -1, 8, 9, MAX);
    }

    static void p11TheParcelIsInARound() {
        refusedFor(STATE, Edges::busy, (d, n) -> d.takeOut(n), 3, 4, 5, 6, 7);
        refusedFor(STATE, Edges::idle, (d, n) -> d.takeOut(n), 0, 7);
    }

    static void p11FirstMiddleLastAndOnlyOne() {
        Couriersday d = day(RoundEdgesTest::nine);
        due(0, d.takeOut(0));
        dueRound(d, 0, 1, 2, 3, 4, 5, 6, 7, 8);
        due(0, d.takeOut(8));
        dueRound(d, 0, 1, 2, 3, 4, 5, 6, 7);
        due(0, d.takeOut(4));
        dueRound(d, 0, 1, 2, 3, 5, 6, 7);
        d.put(1, 0, 4);
        due(1, d.takeOut(4));
        dueRound(d, 1);
        due(0, d.ofRound(1, 0));
        d.van(10, 480, 900);
        d.put(2, 0, 4);
        due(2, d.takeOut(4));
        dueThrown(STATE, d, x -> x.takeOut(4));
    }

    static void p11ARoundIsKeptWithoutAnyOfItsParcels() {
        // no way to the place behind it is longer without it: from each full round each parcel can be taken
        for (int parcel = 0; parcel < 9; parcel++) {
            Couriersday d = day(RoundEdgesTest::nine);
            due(0, d.takeOut(parcel));
            check(d.ofRound(0, 0) <= 180, "the round became dearer");
        }
    }

    // ---- 12: turned

    static void p12TheVanIsThere() {
        refusedFor(INDEX, Edges::busy, (d, n) -> d.turned(n, 0, 0), MIN, -1, 2, 3, MAX);
        refused(INDEX, Edges::nothing, d -> d.turned(0, 0, 0));
    }

    static void p12FromIsNotBelow0() {
        refusedFor(INDEX, Edges::busy, (d, n) -> d.turned(0, n, 1), MIN, -1);
    }

    static void p12ToIsNotAboveTheNumberOfParcels() {
        refusedFor(INDEX, Edges::busy, (d, n) -> d.turned(0, 0, n), 3, 9, 10, MAX);
        refusedFor(INDEX, Edges::idle, (d, n) -> d.turned(0, 0, n), 1, MAX);
        refused(INDEX, RoundEdgesTest::nine, d -> d.turned(0, 0, 10));
    }

    static void p12FromIsNotGreaterThanTo() {
        refused(INDEX, Edges::busy, d -> d.turned(0, 1, 0));
        refused(INDEX, Edges::busy, d -> d.turned(0, 2, 1));
        refused(INDEX, Edges::busy, d -> d.turned(0, 3, 2));
        refused(INDEX, Edges::busy, d -> d.turned(0, MAX, MIN));
        refused(INDEX, Edges::busy, d -> d.turned(0, 0, -1));
        // both alike, but out of the round
        refusedFor(INDEX, Edges::busy, (d, n) -> d.turned(0, n, n), MIN, -1, 3, MAX);
    }

    static void p12StretchesFromNoneToAll() {
        for (int at = 0; at <= 4; at++) {
            Couriersday d = day(RoundEdgesTest::four);
            due(80, d.turned(0, at, at));
            dueRound(d, 0, 0, 1, 2, 3);
            due(4, d.undo());
        }
        for (int at = 0; at < 4; at++) {
            Couriersday d = day(RoundEdgesTest::four);
            due(80, d.turned(0, at, at + 1));
            dueRound(d, 0, 0, 1, 2, 3);
        }
        Couriersday d = day(RoundEdgesTest::four);
        due(80, d.turned(0, 0, 4));
        dueRound(d, 0, 3, 2, 1, 0);
        due(100, d.turned(0, 2, 4));
        dueRound(d, 0, 3, 2, 0, 1);
        due(80, d.turned(0, 0, 3));
        dueRound(d, 0, 0, 2, 3, 1);
        due(80, d.turned(0, 1, 4));
        dueRound(d, 0, 0, 1, 3, 2);
        due(0, d.turned(1, 0, 0));
        dueRound(d, 1);
        Couriersday e = day(RoundEdgesTest::nine);
        due(180, e.turned(0, 0, 9));
        dueRound(e, 0, 8, 7, 6, 5, 4, 3, 2, 1, 0);
    }

    static void p12TheRoundIsKept() {
        for (int to = 509; to <= 510; to++) {
            int its = to;
            Told told = d -> {
                both(d, 0, 1, 10);
                both(d, 1, 2, 10);
                d.van(100, 480, 1200);
                d.parcel(1, 10, 0);
                d.parcel(2, 10, 0);
                d.window(0, 0, its, 0);
                putAll(d, 0, 0, 1);
            };
            if (to == 510) {
                due(40, day(told).turned(0, 0, 2));
            } else {
                refused(STATE, told, d -> d.turned(0, 0, 2));
            }
        }
    }

    // ---- 13: swapEnds

    static void p13BothVansAreThere() {
        refusedFor(INDEX, Edges::busy, (d, n) -> d.swapEnds(n, 0, 1, 0), MIN, -1, 2, 3, MAX);
        refusedFor(INDEX, Edges::busy, (d, n) -> d.swapEnds(0, 0, n, 0), MIN, -1, 2, 3, MAX);
        refusedFor(INDEX, Edges::busy, (d, n) -> d.swapEnds(n, 0, n, 0), -1, 2);
        refused(INDEX, Edges::nothing, d -> d.swapEnds(0, 0, 0, 0));
    }

    static void p13IndexesFrom0ToTheNumberOfParcels() {
        refusedFor(INDEX, Edges::busy, (d, n) -> d.swapEnds(0, n, 1, 0), MIN, -1, 3, 9, MAX);
        refusedFor(INDEX, Edges::busy, (d, n) -> d.swapEnds(0, 0, 1, n), MIN, -1, 2, 9, MAX);
        refusedFor(INDEX, Edges::busy, (d, n) -> d.swapEnds(1, n, 0, 0), MIN, -1, 2, 9, MAX);
        refusedFor(INDEX, Edges::busy, (d, n) -> d.swapEnds(1, 0, 0, n), MIN, -1, 3, 9, MAX);
        refused(INDEX, Edges::idle, d -> d.swapEnds(0, 1, 1, 0));
        refused(INDEX, Edges::idle, d -> d.swapEnds(0, 0, 1, 1));
    }

    static void p13TheVansAreNotTheSame() {
        refusedFor(ARGUMENT, Edges::busy, (d, n) -> d.swapEnds(n, 0, n, 0), 0, 1);
        refused(ARGUMENT, Edges::busy, d -> d.swapEnds(0, 2, 0, 2));
        // an index out of range is listed first
        refused(INDEX, Edges::busy, d -> d.swapEnds(0, 3, 0, 0));
        refused(INDEX, Edges::busy, d -> d.swapEnds(1, 0, 1, 2));
    }

    static void p13EachPlaceOfBothRounds() {
        for (int index = 0; index <= 2; index++) {
            for (int otherIndex = 0; otherIndex <= 3; otherIndex++) {
                Couriersday d = lineWith(5, 1, 2, 3, 4, 5);
                d.van(100, 500, 1200);
                List<Integer> first = new ArrayList<>(List.of(1, 0));
                List<Integer> second = new ArrayList<>(List.of(4, 2, 3));
                putAll(d, 0, 1, 0);
                putAll(d, 1, 4, 2, 3);
                int costs = d.swapEnds(0, index, 1, otherIndex);
                List<Integer> one = new ArrayList<>(first.subList(0, index));
                one.addAll(second.subList(otherIndex, 3));
                List<Integer> other = new ArrayList<>(second.subList(0, otherIndex));
                other.addAll(first.subList(index, 2));
                dueRound(d, 0, one.stream().mapToInt(i -> i).toArray());
                dueRound(d, 1, other.stream().mapToInt(i -> i).toArray());
                due(d.ofRound(0, 0) + d.ofRound(1, 0), costs);
                due(5, d.undo());
                dueRound(d, 0, 1, 0);
                dueRound(d, 1, 4, 2, 3);
            }
        }
    }

    static void p13EmptyRounds() {
        Couriersday d = day(Edges::idle);
        due(0, d.swapEnds(0, 0, 1, 0));
        due(5, d.undo());
        Couriersday e = day(RoundEdgesTest::nine);
        due(180, e.swapEnds(0, 0, 1, 0));
        dueRound(e, 0);
        dueRound(e, 1, 0, 1, 2, 3, 4, 5, 6, 7, 8);
        due(180, e.swapEnds(0, 0, 1, 9));
        due(180, e.swapEnds(0, 0, 1, 0));
        dueRound(e, 0, 0, 1, 2, 3, 4, 5, 6, 7, 8);
        due(180, e.swapEnds(0, 9, 1, 0));
        dueRound(e, 0, 0, 1, 2, 3, 4, 5, 6, 7, 8);
    }

    static void p13EachOfBothRoundsIsKept() {
        // all four sizes are above the room of the van 1, be it told first or second; three are not
        refused(STATE, RoundEdgesTest::four, d -> d.swapEnds(0, 0, 1, 0));
        refused(STATE, RoundEdgesTest::four, d -> d.swapEnds(1, 0, 0, 0));
        due(20 + 80, day(RoundEdgesTest::four).swapEnds(0, 1, 1, 0));
        due(20 + 80, day(RoundEdgesTest::four).swapEnds(1, 0, 0, 1));
    }

    // ---- 14: savings

    static void p14TheVanIsThere() {
        refusedFor(INDEX, Edges::idle, (d, n) -> d.savings(n), MIN, -1, 2, 3, MAX);
        refused(INDEX, Edges::nothing, d -> d.savings(0));
        Couriersday d = day(Edges::idle);
        d.van(5, 480, 900);
        due(0, d.savings(2));
    }

    static void p14ItsRoundIsEmpty() {
        refusedFor(STATE, Edges::busy, (d, n) -> d.savings(n), 0, 1);
        refused(STATE, RoundEdgesTest::nine, d -> d.savings(0));
        due(0, day(RoundEdgesTest::nine).savings(1));
    }

    static void p14WithoutPieces() {
        // no parcel, none that is kept alone, none in no round, none that is WAITING
        Couriersday d = day(x -> x.van(10, 480, 900));
        due(0, d.savings(0));
        dueRound(d, 0);
        due(0, d.undo());
        Couriersday e = day(x -> {
            x.van(10, 480, 900);
            x.parcel(1, 10, 0);
        });
        due(0, e.savings(0));
        both(e, 0, 1, 10);
        e.van(9, 480, 900);
        due(0, e.savings(1));
        due(1, e.savings(0));
        due(0, e.savings(1));
        e.door(0, true);
        due(0, e.savings(0));
    }

    static void p14AParcelAloneIsAPieceIfItIsKept() {
        // at the edge of its window, of the room and of being back in time, and a minute or a size behind it
        for (int more = 0; more <= 1; more++) {
            Couriersday d = line(2);
            d.van(10, 480, 520);
            d.parcel(1, 10 + more, 0);
            d.parcel(2, 10, 0);
            d.parcel(1, 10, 0);
            d.window(1, 0, 1439, more);
            d.window(2, 0, 490 - more, 0);
            due(1 - more, d.savings(0));
        }
    }

    static void p14JoinedAlsoWhenTheSavingIs0() {
        Couriersday d = new Couriersday();
        both(d, 0, 1, 10);
        both(d, 0, 2, 10);
        d.van(100, 480, 1200);
        d.parcel(2, 1, 0);
        d.parcel(1, 1, 0);
        due(2, d.savings(0));
        dueRound(d, 0, 0, 1);
        due(40, d.ofRound(0, 0));
        // each of three, also behind other searches that found something
        Couriersday e = new Couriersday();
        for (int place = 1; place <= 3; place++) {
            both(e, 0, place, 10);
            both(e, place, place + 3, 1);
            e.parcel(place, 1, 0);
        }
        e.van(100, 480, 1200);
        due(3, e.savings(0));
        dueRound(e, 0, 0, 1, 2);
        due(60, e.ofRound(0, 0));
        e.undo();
        e.parcel(4, 1, 0);
        e.parcel(5, 1, 0);
        putAll(e, 0, 3, 1, 0, 4);
        check(e.better(0) > 0, "it can be bettered");
        for (int parcel : new int[] {0, 1, 3, 4}) {
            e.takeOut(parcel);
        }
        e.window(3, 0, 1, 0);
        e.window(4, 0, 1, 0);
        due(3, e.savings(0));
        dueRound(e, 0, 0, 1, 2);
    }

    static void p14NoPieceBehindTheLastParcel() {
        for (int parcels = 0; parcels <= 9; parcels++) {
            Couriersday d = line(1);
            d.van(900, 0, 2000);
            for (int parcel = 0; parcel < parcels; parcel++) {
                d.parcel(1, 1, 0);
            }
            due(parcels, d.savings(0));
            due(parcels, d.roundAt(0, NONE));
        }
    }

    static void p14OfSeveralTheLeastPThenTheLeastQ() {
        // all at one place: each saving is 20; joined are 0 with 1, then, as 1 is the least end, 1 with 2, and so on
        Couriersday d = lineWith(1, 1, 1, 1, 1);
        due(4, d.savings(0));
        dueRound(d, 0, 0, 1, 2, 3);
        // with room for two: 0 and 1, then 2 and 3; the one with the least first parcel
        Couriersday e = line(1);
        e.van(20, 480, 1200);
        for (int parcel = 0; parcel < 4; parcel++) {
            e.parcel(1, 10, 0);
        }
        due(2, e.savings(0));
        dueRound(e, 0, 0, 1);
        // the 0 can't stand ahead: the least p with the least q is 1 with 0, then 0 is no end but with 2
        Couriersday f = lineWith(1, 1, 1, 1);
        f.window(0, 491, 491, 0);
        f.window(1, 0, 490, 1);
        f.window(2, 0, 491, 0);
        due(3, f.savings(0));
        dueRound(f, 0, 1, 0, 2);
        // the greatest saving goes ahead of the least parcels
        Couriersday g = lineWith(3, 1, 3, 2, 3);
        due(4, g.savings(0));
        dueRound(g, 0, 0, 2, 1, 3);
    }

    static void p14OfSeveralPiecesThatWithTheLeastFirstParcel() {
        // no two can be joined: three pieces of one parcel
        Couriersday d = line(1);
        d.van(10, 480, 1200);
        for (int parcel = 0; parcel < 3; parcel++) {
            d.parcel(1, 10, 0);
        }
        d.window(0, 0, 489, 0);
        due(1, d.savings(0));
        dueRound(d, 0, 1);
        // the longer one goes ahead of the one with the lesser first parcel: 0 is alone by its window
        Couriersday e = lineWith(1, 1, 1, 1);
        e.window(0, 490, 490, 60);
        e.window(1, 0, 500, 0);
        e.window(2, 0, 500, 11);
        e.window(1, 490, 490, 1);
        due(2, e.savings(0));
        dueRound(e, 0, 1, 2);
    }

    static void p14AllNine() {
        Couriersday d = day(RoundEdgesTest::nine);
        for (int parcel = 0; parcel < 9; parcel++) {
            d.takeOut(parcel);
        }
        due(9, d.savings(1));
        due(180, d.ofRound(1, 0));
        due(18, d.undo());
        dueRound(d, 1);
    }

    // ---- 15: putIn

    static void p15TheParcelIsThere() {
        refusedFor(INDEX, Edges::busy, (d, n) -> d.putIn(n), MIN, -1, 8, 9, MAX);
    }

    static void p15TheParcelIsWaitingAndInNoRound() {
        refusedFor(STATE, Edges::busy, (d, n) -> d.putIn(n), 0, 1, 2, 4, 5, 6, 7);
        due(0, day(Edges::busy).putIn(3));
    }

    static void p15TheExceptionListedFirst() {
        // not WAITING or in a round, and no round would be kept
        for (boolean isDelivered : new boolean[] {false, true}) {
            Told told = d -> {
                lineOfTwo(d);
                d.parcel(1, 90, 0);
                d.put(0, 0, 0);
                if (isDelivered) {
                    d.door(0, true);
                    d.window(0, 0, 0, 0);
                }
            };
            refused(STATE, told, d -> d.putIn(0));
            refused(STATE, told, d -> d.putInCost(0));
        }
        refused(INDEX, RoundEdgesTest::nine, d -> d.putIn(9));
        refused(STATE, RoundEdgesTest::nine, d -> d.putIn(8));
    }

    static void p15NoRoundWouldBeKept() {
        // without a van, without a street, without room, too late
        refused(ELEMENT, d -> d.parcel(1, 1, 0), d -> d.putIn(0));
        refused(ELEMENT, d -> {
            d.van(900, 0, 2000);
            d.parcel(1, 1, 0);
        }, d -> d.putIn(0));
        refused(ELEMENT, d -> {
            four(d);
            d.parcel(1, 61, 0);
        }, d -> d.putIn(4));
        Couriersday d = day(RoundEdgesTest::four);
        d.parcel(1, 60, 0);
        due(0, d.putIn(4));
        refused(ELEMENT, x -> {
            busy(x);
            x.window(3, 0, 514, 0);
        }, x -> x.putIn(3));
        Couriersday e = day(Edges::busy);
        e.window(3, 0, 515, 0);
        due(0, e.putIn(3));
        dueRound(e, 0, 3, 2, 0);
    }

    static void p15OfSeveralTheLeastVanThenTheLeastPlace() {
        Couriersday d = lineWith(3, 2, 1, 3, 2);
        d.van(100, 600, 1200);
        due(0, d.putIn(0));
        due(0, d.putIn(1));
        // at no cost ahead of the first or behind it
        dueRound(d, 0, 1, 0);
        d.put(1, 0, 2);
        // at no cost in both rounds
        due(0, d.putInCost(3));
        due(0, d.putIn(3));
        dueRound(d, 0, 1, 3, 0);
        // both alike, the least van is full
        Couriersday e = line(1);
        for (int van = 0; van < 3; van++) {
            e.van(van == 0 ? 9 : 10, 480, 900);
            e.parcel(1, 10, 0);
        }
        due(1, e.putIn(2));
        due(2, e.putIn(0));
        dueThrown(ELEMENT, e, x -> x.putIn(1));
    }

    static void p15TheLeastIncreaseNotTheLeastCost() {
        // 1 more for the van 1, that has a dear round, 20 for the van 0 with none
        Couriersday d = lineWith(4, 4, 1);
        d.van(100, 480, 1200);
        d.window(1, 0, 1439, 1);
        d.put(1, 0, 0);
        due(1, d.putInCost(1));
        due(1, d.putIn(1));
        dueRound(d, 1, 1, 0);
    }

    // ---- 16: putInCost

    static void p16TheParcelIsThere() {
        refusedFor(INDEX, Edges::busy, (d, n) -> d.putInCost(n), MIN, -1, 8, 9, MAX);
    }

    static void p16TheParcelIsWaitingAndInNoRound() {
        refusedFor(STATE, Edges::busy, (d, n) -> d.putInCost(n), 0, 1, 2, 4, 5, 6, 7);
    }

    static void p16NoneIfNoRoundWouldBeKept() {
        due(NONE, day(d -> d.parcel(1, 1, 0)).putInCost(0));
        Couriersday d = day(RoundEdgesTest::four);
        d.parcel(1, 61, 0);
        due(NONE, d.putInCost(4));
        d.parcel(1, 60, 0);
        due(0, d.putInCost(5));
        Couriersday e = lineWith(1, 1);
        e.window(0, 0, 489, 0);
        due(NONE, e.putInCost(0));
        e.window(0, 0, 490, 0);
        due(20, e.putInCost(0));
    }

    static void p16ItChangesNothing() {
        asked(Edges::busy, d -> d.putInCost(3));
        asked(d -> {
            four(d);
            d.parcel(1, 61, 0);
        }, d -> d.putInCost(4));
    }

    // ---- 19: roundAt

    static void p19TheVanIsThere() {
        refusedFor(INDEX, Edges::busy, (d, n) -> d.roundAt(n, 0), MIN, -1, 2, 3, MAX);
        refusedFor(INDEX, Edges::busy, (d, n) -> d.roundAt(n, NONE), -1, 2);
        refusedFor(INDEX, Edges::busy, (d, n) -> d.roundAt(n, 9), -1, 2);
    }

    static void p19ThereIsSuchAParcel() {
        refusedFor(ELEMENT, Edges::busy, (d, n) -> d.roundAt(0, n), MIN, -2, 2, 3, 9, MAX);
        refusedFor(ELEMENT, Edges::idle, (d, n) -> d.roundAt(0, n), -2, 0, 1);
        refusedFor(ELEMENT, RoundEdgesTest::nine, (d, n) -> d.roundAt(0, n), -2, 9, 10);
        Couriersday d = day(RoundEdgesTest::nine);
        for (int index = 0; index < 9; index++) {
            due(index, d.roundAt(0, index));
        }
        asked(Edges::busy, x -> x.roundAt(0, 0));
    }

    static void p19NoneForTheirNumber() {
        due(0, day(Edges::idle).roundAt(0, NONE));
        due(2, day(Edges::busy).roundAt(0, NONE));
        due(1, day(Edges::busy).roundAt(1, NONE));
        due(9, day(RoundEdgesTest::nine).roundAt(0, NONE));
        due(0, day(RoundEdgesTest::nine).roundAt(1, NONE));
        asked(Edges::busy, x -> x.roundAt(1, NONE));
    }

    // ---- 21: served

    static void p21TheParcelIsThere() {
        refusedFor(INDEX, Edges::busy, (d, n) -> d.served(n), MIN, -1, 8, 9, MAX);
    }

    static void p21TheParcelIsInARound() {
        refusedFor(STATE, Edges::busy, (d, n) -> d.served(n), 3, 4, 5, 6, 7);
        refusedFor(STATE, Edges::idle, (d, n) -> d.served(n), 0, 7);
    }

    static void p21TheFirstAndTheLastOfARound() {
        Couriersday d = day(RoundEdgesTest::nine);
        for (int parcel = 0; parcel < 9; parcel++) {
            due(10 * parcel + 10, d.served(parcel));
        }
        asked(Edges::busy, x -> x.served(0));
    }

    static void p21BehindTheWayTheWaitAndTheServices() {
        Couriersday d = lineWith(3, 1, 2, 2, 3);
        d.window(0, 490, 490, 3);
        d.window(1, 504, 600, 7);
        d.window(2, 0, 511, 60);
        putAll(d, 0, 0, 1, 2, 3);
        due(490, d.served(0));
        due(504, d.served(1));
        due(511, d.served(2));
        due(581, d.served(3));
    }

    // ---- 22: does

    static void p22TheVanIsThere() {
        refusedFor(INDEX, Edges::busy, (d, n) -> d.does(n, 500), MIN, -1, 2, 3, MAX);
        asked(Edges::busy, d -> d.does(0, 500));
    }

    static void p22AtTheDepotAheadOfItsBeginAndFromItsBeingBackOn() {
        Couriersday d = day(RoundEdgesTest::four);
        int[][] told = {{MIN, 0}, {-1, 0}, {0, 0}, {479, 0}, {480, 1}, {559, 1}, {560, 0}, {561, 0}, {MAX, 0}};
        for (int[] one : told) {
            due(one[1], d.does(0, one[0]));
        }
    }

    static void p22AnEmptyRoundIsAtTheDepot() {
        for (int minute : new int[] {MIN, -1, 0, 479, 480, 481, 1200, 2000, MAX}) {
            due(0, day(Edges::idle).does(0, minute));
        }
    }

    static void p22FromTheMinute0On() {
        Couriersday d = day(RoundEdgesTest::nine);
        due(0, d.does(0, -1));
        due(1, d.does(0, 0));
        due(1, d.does(0, 179));
        due(0, d.does(0, 180));
    }

    static void p22EachMinuteOfARound() {
        // 490 to 494 waits, 495 to 499 at service, at 510 no service, at 520 waits for 3 with a service of 1
        Couriersday d = lineWith(3, 1, 2, 3);
        d.window(0, 495, 600, 5);
        d.window(2, 523, 600, 1);
        putAll(d, 0, 0, 1, 2);
        for (int minute = 470; minute < 570; minute++) {
            int due = minute < 480 || minute >= 554 ? 0 : 1;
            due = minute >= 490 && minute < 495 || minute >= 520 && minute < 523 ? 2 : due;
            due = minute >= 495 && minute < 500 || minute == 523 ? 3 : due;
            due(due, d.does(0, minute));
        }
    }

    static void p22AServiceOf0MinutesIsNone() {
        // two at one door, without service: driven on at once, waited for if told so
        Couriersday d = lineWith(1, 1, 1);
        d.window(1, 491, 600, 0);
        putAll(d, 0, 0, 1);
        due(1, d.does(0, 489));
        due(2, d.does(0, 490));
        due(1, d.does(0, 491));
        due(1, d.does(0, 500));
        due(0, d.does(0, 501));
    }

    // ---- 23: undo

    static void p23ThereIsNone() {
        refused(ELEMENT, Edges::nothing, d -> d.undo());
        refused(ELEMENT, d -> {
            busy(d);
            d.window(3, 0, 1439, 0);
        }, d -> d.undo());
        refused(ELEMENT, d -> {
            busy(d);
            d.door(0, true);
        }, d -> d.undo());
        refused(ELEMENT, d -> {
            busy(d);
            d.door(0, false);
        }, d -> d.undo());
        refused(ELEMENT, d -> {
            lineOfTwo(d);
            d.put(0, 0, 0);
            d.undo();
        }, d -> d.undo());
    }

    private static void lineOfTwo(Couriersday d) {
        both(d, 0, 1, 10);
        d.van(100, 480, 1200);
        d.parcel(1, 10, 0);
        d.parcel(1, 10, 0);
    }

    /** Turns stretches of the round of four, so that rounds differ, and keeps what is due behind each step. */
    private static List<List<Integer>> turnOften(Couriersday d, int times) {
        List<List<Integer>> rows = new ArrayList<>();
        List<Integer> row = new ArrayList<>(List.of(0, 1, 2, 3));
        for (int step = 0; step < times; step++) {
            rows.add(new ArrayList<>(row));
            int from = step % 3;
            int to = from + 2 + (step % 2 == 0 && from < 2 ? 1 : 0);
            Collections.reverse(row.subList(from, to));
            d.turned(0, from, to);
        }
        return rows;
    }

    static void p23AtMost20() {
        for (int times : new int[] {15, 16, 17, 19, 20, 21, 35, 36, 37, 40, 57, 101}) {
            Couriersday d = day(RoundEdgesTest::four);
            List<List<Integer>> rows = turnOften(d, times);
            int there = Math.min(20, times + 4);
            for (int left = there - 1; left >= 0; left--) {
                due(left, d.undo());
                int step = times - (there - left);
                if (step >= 0) {
                    dueRound(d, 0, rows.get(step).stream().mapToInt(i -> i).toArray());
                } else {
                    due(4 + step, d.roundAt(0, NONE));
                }
            }
            dueThrown(ELEMENT, d, x -> x.undo());
        }
    }

    static void p23OnceMoreFullBehindUndoing() {
        Couriersday d = day(RoundEdgesTest::four);
        turnOften(d, 31);
        for (int left = 19; left >= 13; left--) {
            due(left, d.undo());
        }
        for (int step = 0; step < 6; step++) {
            d.turned(0, 0, 2);
        }
        due(18, d.undo());
        d.turned(0, 0, 4);
        d.turned(0, 0, 4);
        for (int left = 19; left >= 0; left--) {
            due(left, d.undo());
        }
        dueThrown(ELEMENT, d, x -> x.undo());
    }

    static void p23TheLatestChangeIsUndoneFirst() {
        Couriersday d = day(RoundEdgesTest::four);
        d.swapEnds(0, 2, 1, 0);
        d.takeOut(3);
        dueRound(d, 0, 0, 1);
        dueRound(d, 1, 2);
        due(5, d.undo());
        dueRound(d, 1, 2, 3);
        due(4, d.undo());
        dueRound(d, 0, 0, 1, 2, 3);
        dueRound(d, 1);
        due(3, d.undo());
        dueRound(d, 0, 0, 1, 2);
    }

    static void p23EachCallByWhichAllStaysTheSame() {
        Call[] calls = {d -> d.turned(1, 0, 0), d -> d.swapEnds(0, 4, 1, 0), d -> d.savings(1), d -> d.better(0),
            d -> d.exact(0), d -> d.better(1), d -> d.exact(1)};
        for (Call call : calls) {
            Couriersday d = day(RoundEdgesTest::four);
            call.on(d);
            due(4, d.undo());
            dueRound(d, 0, 0, 1, 2, 3);
            due(3, d.undo());
            dueRound(d, 0, 0, 1, 2);
        }
    }

    static void p23EachCallThatChangesARound() {
        Call[] calls = {d -> d.put(1, 0, 4), d -> d.takeOut(2), d -> d.turned(0, 0, 3), d -> d.swapEnds(0, 2, 1, 0),
            d -> d.savings(1), d -> d.putIn(4)};
        for (Call call : calls) {
            Couriersday d = day(RoundEdgesTest::four);
            d.parcel(3, 10, 0);
            call.on(d);
            due(4, d.undo());
            dueRound(d, 0, 0, 1, 2, 3);
            dueRound(d, 1);
            due(NONE, d.parcelAt(4, 2));
            due(0, d.parcelAt(2, 2));
        }
        for (Call call : new Call[] {d -> d.better(0), d -> d.exact(0)}) {
            Couriersday d = day(RoundEdgesTest::four);
            d.turned(0, 1, 3);
            d.turned(0, 0, 2);
            dueRound(d, 0, 2, 0, 1, 3);
            due(120, d.ofRound(0, 0));
            call.on(d);
            due(80, d.ofRound(0, 0));
            due(6, d.undo());
            dueRound(d, 0, 2, 0, 1, 3);
        }
    }

    static void p23NoOtherCallIsAChange() {
        Call[] calls = {d -> d.factor(1, 100), d -> d.way(0, 1, 0), d -> d.arrival(0, 1, 0), d -> d.clock(0, 0, 0),
            d -> d.parcel(1, 1, 0), d -> d.van(1, 0, 0), d -> d.putInCost(4), d -> d.roundAt(0, 0),
            d -> d.ofRound(0, 7), d -> d.served(0), d -> d.does(0, 0), d -> d.rules(30, 5, 60),
            d -> d.piece(DRIVE, 1), d -> d.unlawful(), d -> d.mayDrive(true), d -> d.leastTime(1),
            d -> d.locker(1, 1), d -> d.parcelAt(0, 0), d -> d.setZone(1, 1), d -> d.balance(), d -> d.zone(true, 0),
            d -> d.together(7), d -> d.share(0), d -> d.blocks(), d -> d.rates(0, 0), d -> d.pay(0, 0),
            d -> d.books(NONE), d -> d.meanPay(), d -> d.filled(0), d -> d.errors()};
        for (Call call : calls) {
            Couriersday d = day(RoundEdgesTest::four);
            d.parcel(3, 10, 0);
            call.on(d);
            due(3, d.undo());
            dueRound(d, 0, 0, 1, 2);
        }
    }

    static void p23NothingAheadOfADoorOrAWindow() {
        for (int kind = 0; kind < 3; kind++) {
            Couriersday d = day(RoundEdgesTest::four);
            d.takeOut(3);
            if (kind == 2) {
                d.window(3, 0, 1439, 0);
            } else {
                d.door(2, kind == 0);
            }
            dueThrown(ELEMENT, d, x -> x.undo());
            d.turned(0, 0, 2);
            d.turned(0, 0, 2);
            due(1, d.undo());
            due(0, d.undo());
            dueThrown(ELEMENT, d, x -> x.undo());
        }
    }

    static void p23TheRoundOfAVanThatWasToldBehindTheChange() {
        Couriersday d = day(RoundEdgesTest::four);
        due(2, d.van(100, 480, 1200));
        due(3, d.undo());
        dueRound(d, 2);
        d.takeOut(0);
        d.put(2, 0, 0);
        due(4, d.undo());
        dueRound(d, 2);
    }
}
