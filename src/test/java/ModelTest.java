import java.util.ArrayList;
import java.util.Arrays;
import java.util.List;
import java.util.NoSuchElementException;

/**
 * Runs of calls, drawn from fixed seeds, against a second day that is written from the document's words alone:
 * all rows of parcels, all orders of senders, each minute of a way or a driver's row.
 */
public final class ModelTest {
    private static final int NONE = -1;
    private static int wrong = 0;
    private static int calls = 0;

    public static void main(String[] args) {
        int runs = args.length > 0 ? Integer.parseInt(args[0]) : 400;
        for (int seed = 1; seed <= runs && wrong < 20; seed++) {
            run(seed);
        }
        System.out.println(calls + " calls, " + wrong + " answers are not as due");
        if (wrong != 0) {
            System.exit(1);
        }
    }

    // ---- drawing

    private static final class Draw {
        private long state;

        Draw(long seed) {
            state = seed * 0x9E3779B97F4A7C15L + 12345;
        }

        int below(int bound) {
            state = state * 6364136223846793005L + 1442695040888963407L;
            return (int) ((state >>> 33) % bound);
        }

        int from(int least, int most) {
            return least + below(most - least + 1);
        }

        boolean isOneIn(int many) {
            return below(many) == 0;
        }
    }

    private static void run(int seed) {
        Draw draw = new Draw(seed);
        Couriersday day = new Couriersday();
        Slow slow = new Slow();
        List<String> told = new ArrayList<>();
        int style = draw.below(4);
        int places = draw.from(3, style == 3 ? 15 : 6);
        int length = draw.from(60, 300);
        boolean isWide = draw.isOneIn(2);
        List<int[]> begun = seed % 2 == 0 ? beginning(draw, places, style, isWide) : new ArrayList<>();
        for (int i = 0; i < length; i++) {
            int[] call = i < begun.size() ? begun.get(i)
                    : drawCall(draw, begun.isEmpty() ? i : NONE, places, style, isWide, slow);
            String got = answer(day, call);
            String due = answer(slow, call);
            told.add(Arrays.toString(call) + " -> " + got);
            calls++;
            if (!got.equals(due)) {
                wrong++;
                System.out.println("seed " + seed + ": call " + Arrays.toString(call) + " answered " + got
                        + ", due is " + due);
                for (String line : told.subList(Math.max(0, told.size() - 15), told.size())) {
                    System.out.println("    " + line);
                }
                return;
            }
            String difference = difference(day, slow);
            if (difference != null) {
                wrong++;
                System.out.println("seed " + seed + ": behind " + Arrays.toString(call) + ": " + difference);
                return;
            }
        }
        if (day.errors() != 0) {
            wrong++;
            System.out.println("seed " + seed + ": errors() is " + day.errors());
        }
    }

    /** Streets that join all places, parcels, and vans that have time: so that rounds become long. */
    private static List<int[]> beginning(Draw draw, int places, int style, boolean isWide) {
        List<int[]> told = new ArrayList<>();
        for (int i = 0; i < 30; i++) {
            int from = i <= places ? i : draw.from(0, places);
            int to = i <= places ? (i + 1) % (places + 1) : draw.from(0, places);
            int minutes = draw.from(1, style == 1 ? 3 : 25);
            if (from != to) {
                told.add(new int[] {0, from, to, minutes, draw.from(1, 5) * 100, draw.below(4)});
                told.add(new int[] {0, to, from, style == 2 ? draw.from(1, 25) : minutes, draw.from(1, 900), 0});
            }
        }
        for (int van = draw.from(1, 3); van > 0; van--) {
            told.add(new int[] {4, draw.from(60, 300), draw.from(400, 500), draw.from(600, 2000)});
        }
        for (int place = 1; place <= places; place++) {
            told.add(new int[] {32, place, draw.below(3)});
        }
        for (int parcel = 0; parcel < 9; parcel++) {
            told.add(new int[] {2, draw.from(1, places), draw.from(1, 30), draw.below(3)});
            int open = draw.below(700);
            if (draw.isOneIn(2)) {
                told.add(new int[] {3, parcel, open, isWide ? draw.from(Math.max(600, open), 1439) : 1439,
                    draw.below(30)});
            }
        }
        return told;
    }

    /** A call: its kind and up to five arguments; the step is NONE behind a beginning. */
    private static int[] drawCall(Draw draw, int step, int places, int style, boolean isWide, Slow slow) {
        boolean isOdd = draw.isOneIn(25);
        int begun = Math.min(step, 100);
        int kind = draw.below(100) < 100 - begun ? draw.from(0, 5) : draw.from(0, 39);
        if (step == NONE) {
            kind = draw.isOneIn(30) ? draw.below(6) : draw.isOneIn(4) ? draw.from(8, 17) : draw.from(6, 39);
        }
        if (kind == 0 && step > 20 && !draw.isOneIn(3)) {
            kind = 8;
        }
        int place = isOdd ? draw.from(-1, 17) : draw.from(0, places);
        int other = isOdd ? draw.from(-1, 17) : draw.from(0, places);
        int parcel = isOdd ? draw.from(-1, 10) : draw.below(Math.max(1, slow.parcels.size()));
        int van = isOdd ? draw.from(-1, 4) : draw.below(Math.max(1, slow.vans.size()));
        int size = van >= 0 && van < slow.vans.size() ? slow.rounds.get(van).size() : 3;
        int index = draw.from(isOdd ? -2 : 0, isOdd ? 10 : size);
        int second = draw.from(isOdd ? -2 : Math.max(0, Math.min(index, size)), isOdd ? 10 : size);
        int inside = isOdd || size == 0 || slow.vans.isEmpty() || van >= slow.vans.size() ? parcel
                : slow.rounds.get(van).get(draw.below(size));
        switch (kind) {
            case 0:
                int most = style == 1 ? 3 : style == 2 ? 120 : 25;
                return new int[] {0, place, other, isOdd ? draw.from(-2, 123) : draw.from(1, most),
                    isOdd ? draw.from(-1, 50002) : draw.from(1, 5) * 100, isOdd ? draw.from(-1, 10001) : draw.below(4)};
            case 1:
                return new int[] {1, isOdd ? draw.from(-2, 25) : draw.below(24), draw.from(isOdd ? 45 : 50, 305)};
            case 2:
                return new int[] {2, isOdd ? place : draw.from(1, places), draw.from(isOdd ? -1 : 1, isOdd ? 103 : 30),
                    draw.from(isOdd ? -1 : 0, isOdd ? 3 : 2)};
            case 3:
                int open = isWide ? draw.below(700) : draw.from(480, 620);
                int close = isWide ? draw.from(open, 1439) : draw.from(open, open + 120);
                return new int[] {3, parcel, isOdd ? draw.from(-1, 1441) : open, isOdd ? draw.from(-1, 1441) : close,
                    isOdd ? draw.from(-2, 62) : draw.below(30)};
            case 4:
                int begin = isOdd ? draw.from(-1, 1441) : draw.from(400, 500);
                return new int[] {4, isOdd ? draw.from(-1, 902) : draw.from(20, 300), begin,
                    isOdd ? begin - 1 + draw.below(3) : draw.from(begin, 2000)};
            case 5:
                return new int[] {0, place, other, draw.from(1, 20), draw.from(1, 900), draw.below(100)};
            case 6:
                return new int[] {6, place, other, draw.from(isOdd ? -1 : 0, isOdd ? 4 : 2)};
            case 7:
                return new int[] {7, place, other, draw.from(isOdd ? -3 : 0, isOdd ? 1443 : 1439)};
            case 8:
            case 9:
                return new int[] {9, parcel};
            case 10:
                return new int[] {10, van, index, parcel};
            case 11:
                return new int[] {11, inside};
            case 12:
                return new int[] {12, van, index, second};
            case 13:
                return new int[] {13, van, index, isOdd ? van : draw.below(Math.max(1, slow.vans.size())),
                    draw.from(isOdd ? -2 : 0, 4)};
            case 14:
            case 15:
            case 16:
            case 17:
                return new int[] {kind, van};
            case 18:
                return new int[] {18, parcel};
            case 19:
                return new int[] {19, van, draw.from(isOdd ? -4 : -1, 9)};
            case 20:
                return new int[] {20, van, draw.from(isOdd ? -2 : 0, isOdd ? 9 : 8)};
            case 21:
                return new int[] {21, inside};
            case 22:
                return new int[] {22, van, draw.from(isOdd ? -5 : 380, isOdd ? 3000 : 900)};
            case 23:
                return new int[] {draw.isOneIn(2) ? 23 : 9, parcel};
            case 24:
                return draw.isOneIn(6) ? new int[] {24, draw.from(isOdd ? 28 : 30, isOdd ? 602 : 200),
                    draw.from(isOdd ? 4 : 5, isOdd ? 122 : 60), draw.from(isOdd ? 58 : 60, isOdd ? 902 : 900)}
                    : new int[] {27, draw.below(2)};
            case 25:
            case 26:
                return new int[] {25, draw.from(isOdd ? -1 : 0, isOdd ? 3 : 2),
                    isOdd ? draw.from(-2, 602) : draw.from(1, 60)};
            case 27:
                return new int[] {draw.from(26, 27), draw.below(2)};
            case 28:
                return new int[] {28, draw.from(isOdd ? -2 : 0, isOdd ? 902 : 400)};
            case 29:
                return draw.isOneIn(step == NONE ? 1 : 3) ? new int[] {29, inside, draw.below(8) / 7}
                    : new int[] {9, parcel};
            case 30:
                return new int[] {30, place, draw.from(isOdd ? -1 : 1, isOdd ? 7 : 2)};
            case 31:
                return new int[] {31, parcel, draw.from(isOdd ? -2 : 0, isOdd ? 8 : 6)};
            case 32:
                return new int[] {32, place, draw.from(isOdd ? -1 : 0, isOdd ? 4 : 2)};
            case 33:
                return new int[] {33};
            case 34:
                return new int[] {34, draw.below(2), draw.from(isOdd ? -2 : 0, isOdd ? 17 : 2)};
            case 35:
                return new int[] {35, draw.from(isOdd ? -2 : 0, isOdd ? 9 : 7)};
            case 36:
                return new int[] {36, draw.from(isOdd ? -1 : 0, isOdd ? 4 : 2)};
            case 37:
                return new int[] {37};
            case 38:
                return draw.isOneIn(3) ? new int[] {38, draw.from(isOdd ? -2 : 0, 10001), draw.from(0, isOdd ? 10002 : 9999)}
                    : new int[] {5, draw.from(isOdd ? -2 : 0, isOdd ? 26 : 23), draw.from(0, isOdd ? 62 : 59),
                        draw.from(isOdd ? -2 : 0, isOdd ? 100003 : 100000)};
            default:
                return draw.isOneIn(2) ? new int[] {39, draw.from(isOdd ? -2 : 0, isOdd ? 9000003 : 9000000),
                    draw.from(isOdd ? -2 : 0, isOdd ? 100001 : 99999)} : new int[] {draw.from(40, 43), draw.from(-2, isOdd ? 50 : 5)};
        }
    }

    private static String answer(Couriersday d, int[] c) {
        try {
            switch (c[0]) {
                case 0: return "" + d.street(c[1], c[2], c[3], c[4], c[5]);
                case 1: return "" + d.factor(c[1], c[2]);
                case 2: return "" + d.parcel(c[1], c[2], c[3]);
                case 3: return "" + d.window(c[1], c[2], c[3], c[4]);
                case 4: return "" + d.van(c[1], c[2], c[3]);
                case 5: return "" + d.clock(c[1], c[2], c[3]);
                case 6: return "" + d.way(c[1], c[2], c[3]);
                case 7: return "" + d.arrival(c[1], c[2], c[3]);
                case 9: return "" + d.putIn(c[1]);
                case 10: return "" + d.put(c[1], c[2], c[3]);
                case 11: return "" + d.takeOut(c[1]);
                case 12: return "" + d.turned(c[1], c[2], c[3]);
                case 13: return "" + d.swapEnds(c[1], c[2], c[3], c[4]);
                case 14: return "" + d.savings(c[1]);
                case 15: return "" + d.better(c[1]);
                case 16: return "" + d.exact(c[1]);
                case 17: return "" + d.filled(c[1]);
                case 18: return "" + d.putInCost(c[1]);
                case 19: return "" + d.roundAt(c[1], c[2]);
                case 20: return "" + d.ofRound(c[1], c[2]);
                case 21: return "" + d.served(c[1]);
                case 22: return "" + d.does(c[1], c[2]);
                case 23: return "" + d.undo();
                case 24: return "" + d.rules(c[1], c[2], c[3]);
                case 25: return "" + d.piece(c[1], c[2]);
                case 26: return "" + d.unlawful();
                case 27: return "" + d.mayDrive(c[1] == 1);
                case 28: return "" + d.leastTime(c[1]);
                case 29: return "" + d.door(c[1], c[2] == 1);
                case 30: return "" + d.locker(c[1], c[2]);
                case 31: return "" + d.parcelAt(c[1], c[2]);
                case 32: return "" + d.setZone(c[1], c[2]);
                case 33: return "" + d.balance();
                case 34: return "" + d.zone(c[1] == 1, c[2]);
                case 35: return "" + d.together(c[1]);
                case 36: return "" + d.share(c[1]);
                case 37: return "" + d.blocks();
                case 38: return "" + d.rates(c[1], c[2]);
                case 39: return "" + d.pay(c[1], c[2]);
                case 40: return "" + d.books(c[1]);
                case 41: return "" + d.meanPay();
                case 42: return "" + d.errors();
                default: return "" + d.errors();
            }
        } catch (RuntimeException e) {
            return "throws." + e.getClass().getSimpleName();
        }
    }

    private static String answer(Slow d, int[] c) {
        try {
            switch (c[0]) {
                case 0: return "" + d.street(c[1], c[2], c[3], c[4], c[5]);
                case 1: return "" + d.factor(c[1], c[2]);
                case 2: return "" + d.parcel(c[1], c[2], c[3]);
                case 3: return "" + d.window(c[1], c[2], c[3], c[4]);
                case 4: return "" + d.van(c[1], c[2], c[3]);
                case 5: return "" + d.clock(c[1], c[2], c[3]);
                case 6: return "" + d.way(c[1], c[2], c[3]);
                case 7: return "" + d.arrival(c[1], c[2], c[3]);
                case 9: return "" + d.putIn(c[1]);
                case 10: return "" + d.put(c[1], c[2], c[3]);
                case 11: return "" + d.takeOut(c[1]);
                case 12: return "" + d.turned(c[1], c[2], c[3]);
                case 13: return "" + d.swapEnds(c[1], c[2], c[3], c[4]);
                case 14: return "" + d.savings(c[1]);
                case 15: return "" + d.better(c[1]);
                case 16: return "" + d.exact(c[1]);
                case 17: return "" + d.filled(c[1]);
                case 18: return "" + d.putInCost(c[1]);
                case 19: return "" + d.roundAt(c[1], c[2]);
                case 20: return "" + d.ofRound(c[1], c[2]);
                case 21: return "" + d.served(c[1]);
                case 22: return "" + d.does(c[1], c[2]);
                case 23: return "" + d.undo();
                case 24: return "" + d.rules(c[1], c[2], c[3]);
                case 25: return "" + d.piece(c[1], c[2]);
                case 26: return "" + d.unlawful();
                case 27: return "" + d.mayDrive(c[1] == 1);
                case 28: return "" + d.leastTime(c[1]);
                case 29: return "" + d.door(c[1], c[2] == 1);
                case 30: return "" + d.locker(c[1], c[2]);
                case 31: return "" + d.parcelAt(c[1], c[2]);
                case 32: return "" + d.setZone(c[1], c[2]);
                case 33: return "" + d.balance();
                case 34: return "" + d.zone(c[1] == 1, c[2]);
                case 35: return "" + d.together(c[1]);
                case 36: return "" + d.share(c[1]);
                case 37: return "" + d.blocks();
                case 38: return "" + d.rates(c[1], c[2]);
                case 39: return "" + d.pay(c[1], c[2]);
                case 40: return "" + d.books(c[1]);
                case 41: return "" + d.meanPay();
                default: return "0";
            }
        } catch (RuntimeException e) {
            return "throws." + e.getClass().getSimpleName();
        }
    }

    /** What of the rounds and parcels is not as due, so that a wrong change shows at once. */
    private static String difference(Couriersday day, Slow slow) {
        for (int van = 0; van < slow.vans.size(); van++) {
            List<Integer> row = new ArrayList<>();
            for (int i = 0; i < day.roundAt(van, NONE); i++) {
                row.add(day.roundAt(van, i));
            }
            if (!row.equals(slow.rounds.get(van))) {
                return "round " + van + " is " + row + ", due is " + slow.rounds.get(van);
            }
        }
        for (int parcel = 0; parcel < slow.parcels.size(); parcel++) {
            for (int what = 0; what <= 6; what++) {
                if (day.parcelAt(parcel, what) != slow.parcelAt(parcel, what)) {
                    return "parcelAt(" + parcel + ", " + what + ") is " + day.parcelAt(parcel, what);
                }
            }
        }
        for (int place = 1; place < 16; place++) {
            if (day.zone(false, place) != slow.zones[place]) {
                return "zone of " + place;
            }
        }
        return null;
    }

    // ---- the second day

    private static final class Parcel {
        int place, size, sender, open = 0, close = 1439, service = 0, state = 0, failures = 0, locker = NONE;
    }

    private static final class Slow {
        final List<int[]> streets = new ArrayList<>();
        final int[] factors = new int[24];
        final List<Parcel> parcels = new ArrayList<>();
        final List<int[]> vans = new ArrayList<>();
        final List<List<Integer>> rounds = new ArrayList<>();
        final List<List<List<Integer>>> history = new ArrayList<>();
        final int[] slots = new int[16];
        final int[] zones = new int[16];
        int[] rules = {270, 45, 540};
        final List<int[]> pieces = new ArrayList<>();
        int parcelRate = 100, meterRate = 50, delivered = 0;
        final List<Long> payments = new ArrayList<>();
        long[][] ways = null;

        Slow() {
            Arrays.fill(factors, 100);
        }

        static void place(int place) {
            if (place < 0 || place > 15) {
                throw new IndexOutOfBoundsException();
            }
        }

        void parcelThere(int parcel) {
            if (parcel < 0 || parcel >= parcels.size()) {
                throw new IndexOutOfBoundsException();
            }
        }

        void vanThere(int van) {
            if (van < 0 || van >= vans.size()) {
                throw new IndexOutOfBoundsException();
            }
        }

        static void arg(boolean good) {
            if (!good) {
                throw new IllegalArgumentException();
            }
        }

        static void state(boolean good) {
            if (!good) {
                throw new IllegalStateException();
            }
        }

        // Streets: one long holds minutes, meters and toll, so that rows of streets add and compare as they should.
        static final long MINUTE = 1L << 40, METER = 1L << 18;

        long[][] ways() {
            if (ways != null) {
                return ways;
            }
            long[][] w = new long[16][16];
            for (int a = 0; a < 16; a++) {
                Arrays.fill(w[a], Long.MAX_VALUE);
                w[a][a] = 0;
                boolean changed = true;
                while (changed) {
                    changed = false;
                    for (int[] s : streets) {
                        long over = w[a][s[0]] == Long.MAX_VALUE ? Long.MAX_VALUE
                                : w[a][s[0]] + s[2] * MINUTE + s[3] * METER + s[4];
                        if (over < w[a][s[1]]) {
                            w[a][s[1]] = over;
                            changed = true;
                        }
                    }
                }
            }
            ways = w;
            return w;
        }

        int d(int a, int b) {
            return way(a, b, 0);
        }

        int street(int from, int to, int minutes, int meters, int toll) {
            place(from);
            place(to);
            arg(from != to && minutes >= 1 && minutes <= 120 && meters >= 1 && meters <= 50000);
            arg(toll >= 0 && toll <= 9999);
            state(streets.size() < 60);
            for (List<Integer> round : rounds) {
                state(round.isEmpty());
            }
            streets.add(new int[] {from, to, minutes, meters, toll});
            ways = null;
            return streets.size();
        }

        int factor(int hour, int factor) {
            arg(hour >= 0 && hour <= 23 && factor >= 50 && factor <= 300);
            int before = factors[hour];
            factors[hour] = factor;
            return before;
        }

        int way(int from, int to, int what) {
            place(from);
            place(to);
            arg(what >= 0 && what <= 2);
            long way = ways()[from][to];
            if (way == Long.MAX_VALUE) {
                return NONE;
            }
            return (int) (what == 0 ? way / MINUTE : what == 1 ? way % MINUTE / METER : way % METER);
        }

        int arrival(int from, int to, int minute) {
            place(from);
            place(to);
            arg(minute >= 0 && minute <= 1439);
            int[] at = new int[16];
            Arrays.fill(at, Integer.MAX_VALUE);
            at[from] = minute;
            boolean changed = true;
            while (changed) {
                changed = false;
                for (int[] s : streets) {
                    if (at[s[0]] == Integer.MAX_VALUE) {
                        continue;
                    }
                    for (int enter = at[s[0]]; enter <= at[s[0]] + 400; enter++) {
                        int hundredths = s[2] * factors[enter % 1440 / 60];
                        int end = enter + hundredths / 100 + (hundredths % 100 > 0 ? 1 : 0);
                        if (end < at[s[1]]) {
                            at[s[1]] = end;
                            changed = true;
                        }
                    }
                }
            }
            return at[to] == Integer.MAX_VALUE ? NONE : at[to];
        }

        int clock(int hour, int minute, int later) {
            arg(hour >= 0 && hour <= 23 && minute >= 0 && minute <= 59 && later >= 0 && later <= 100000);
            int now = hour * 60 + minute;
            for (int i = 0; i < later; i++) {
                now = now == 1439 ? 0 : now + 1;
            }
            return now;
        }

        int parcel(int place, int size, int sender) {
            place(place);
            if (sender < 0 || sender > 2) {
                throw new IndexOutOfBoundsException();
            }
            arg(place != 0 && size >= 1 && size <= 100);
            state(parcels.size() < 9);
            Parcel parcel = new Parcel();
            parcel.place = place;
            parcel.size = size;
            parcel.sender = sender;
            parcels.add(parcel);
            return parcels.size() - 1;
        }

        int vanOf(int parcel) {
            for (int van = 0; van < rounds.size(); van++) {
                if (rounds.get(van).contains(parcel)) {
                    return van;
                }
            }
            return NONE;
        }

        int window(int parcel, int from, int to, int service) {
            parcelThere(parcel);
            arg(from >= 0 && from <= 1439 && to >= from && to <= 1439 && service >= 0 && service <= 60);
            state(vanOf(parcel) == NONE);
            Parcel p = parcels.get(parcel);
            int before = p.service;
            p.open = from;
            p.close = to;
            p.service = service;
            history.clear();
            return before;
        }

        int van(int room, int begins, int back) {
            arg(room >= 1 && room <= 900 && begins >= 0 && begins <= 1439 && back >= begins && back <= 2000);
            state(vans.size() < 3);
            vans.add(new int[] {room, begins, back});
            rounds.add(new ArrayList<>());
            return vans.size() - 1;
        }

        /** The minutes of a round: for each parcel when it is come to and when its service begins; the back; or null. */
        int[] drive(int van, List<Integer> row) {
            int[] told = new int[2 * row.size() + 1];
            int now = vans.get(van)[1];
            int at = 0;
            int size = 0;
            for (int i = 0; i < row.size(); i++) {
                Parcel p = parcels.get(row.get(i));
                if (d(at, p.place) == NONE) {
                    return null;
                }
                now += d(at, p.place);
                told[2 * i] = now;
                while (now < p.open) {
                    now++;
                }
                if (now > p.close) {
                    return null;
                }
                told[2 * i + 1] = now;
                now += p.service;
                size += p.size;
                at = p.place;
            }
            if (d(at, 0) == NONE) {
                return null;
            }
            now += d(at, 0);
            told[2 * row.size()] = now;
            return now > vans.get(van)[2] || size > vans.get(van)[0] ? null : told;
        }

        int cost(int van, List<Integer> row) {
            int[] told = drive(van, row);
            return told == null ? NONE : told[told.length - 1] - vans.get(van)[1];
        }

        List<List<Integer>> copy() {
            List<List<Integer>> all = new ArrayList<>();
            for (List<Integer> round : rounds) {
                all.add(new ArrayList<>(round));
            }
            return all;
        }

        void remember() {
            history.add(copy());
            if (history.size() > 20) {
                history.remove(0);
            }
        }

        int change(int van, List<Integer> row) {
            int cost = cost(van, row);
            state(cost != NONE);
            remember();
            rounds.set(van, row);
            return cost;
        }

        int put(int van, int index, int parcel) {
            vanThere(van);
            parcelThere(parcel);
            List<Integer> row = new ArrayList<>(rounds.get(van));
            if (index < 0 || index > row.size()) {
                throw new IndexOutOfBoundsException();
            }
            state(parcels.get(parcel).state == 0 && vanOf(parcel) == NONE);
            row.add(index, parcel);
            return change(van, row);
        }

        int takeOut(int parcel) {
            parcelThere(parcel);
            int van = vanOf(parcel);
            state(van != NONE);
            List<Integer> row = new ArrayList<>(rounds.get(van));
            row.remove(Integer.valueOf(parcel));
            change(van, row);
            return van;
        }

        static List<Integer> turn(List<Integer> row, int from, int to) {
            List<Integer> turned = new ArrayList<>(row.subList(0, from));
            for (int i = to - 1; i >= from; i--) {
                turned.add(row.get(i));
            }
            turned.addAll(row.subList(to, row.size()));
            return turned;
        }

        int turned(int van, int from, int to) {
            vanThere(van);
            if (from < 0 || to > rounds.get(van).size() || from > to) {
                throw new IndexOutOfBoundsException();
            }
            return change(van, turn(rounds.get(van), from, to));
        }

        int swapEnds(int van, int index, int other, int otherIndex) {
            vanThere(van);
            vanThere(other);
            List<Integer> a = rounds.get(van);
            List<Integer> b = rounds.get(other);
            if (index < 0 || index > a.size() || otherIndex < 0 || otherIndex > b.size()) {
                throw new IndexOutOfBoundsException();
            }
            arg(van != other);
            List<Integer> first = new ArrayList<>(a.subList(0, index));
            first.addAll(b.subList(otherIndex, b.size()));
            List<Integer> second = new ArrayList<>(b.subList(0, otherIndex));
            second.addAll(a.subList(index, a.size()));
            state(cost(van, first) != NONE && cost(other, second) != NONE);
            remember();
            rounds.set(van, first);
            rounds.set(other, second);
            return cost(van, first) + cost(other, second);
        }

        int savings(int van) {
            vanThere(van);
            state(rounds.get(van).isEmpty());
            List<List<Integer>> all = new ArrayList<>();
            for (int parcel = 0; parcel < parcels.size(); parcel++) {
                if (vanOf(parcel) == NONE && parcels.get(parcel).state == 0 && cost(van, List.of(parcel)) != NONE) {
                    all.add(List.of(parcel));
                }
            }
            boolean joined = true;
            while (joined) {
                joined = false;
                int[] best = null;
                List<Integer> a = null, b = null;
                for (List<Integer> x : all) {
                    for (List<Integer> y : all) {
                        List<Integer> both = new ArrayList<>(x);
                        both.addAll(y);
                        if (x == y || cost(van, both) == NONE) {
                            continue;
                        }
                        int p = x.get(x.size() - 1), q = y.get(0);
                        int pp = parcels.get(p).place, qq = parcels.get(q).place;
                        int[] now = {-(d(pp, 0) + d(0, qq) - d(pp, qq)), p, q};
                        if (best == null || Arrays.compare(now, best) < 0) {
                            best = now;
                            a = x;
                            b = y;
                        }
                    }
                }
                if (best != null) {
                    List<Integer> both = new ArrayList<>(a);
                    both.addAll(b);
                    all.remove(a);
                    all.remove(b);
                    all.add(both);
                    joined = true;
                }
            }
            List<Integer> most = new ArrayList<>();
            for (List<Integer> x : all) {
                if (x.size() > most.size() || x.size() == most.size() && x.get(0) < most.get(0)) {
                    most = x;
                }
            }
            remember();
            rounds.set(van, new ArrayList<>(most));
            return most.size();
        }

        /** The van, the place and by how much the cost becomes greater; or null. */
        int[] bestPlace(int parcel) {
            parcelThere(parcel);
            state(parcels.get(parcel).state == 0 && vanOf(parcel) == NONE);
            int[] best = null;
            for (int van = 0; van < vans.size(); van++) {
                for (int index = 0; index <= rounds.get(van).size(); index++) {
                    List<Integer> row = new ArrayList<>(rounds.get(van));
                    row.add(index, parcel);
                    int more = cost(van, row) - cost(van, rounds.get(van));
                    if (cost(van, row) != NONE && (best == null || more < best[2])) {
                        best = new int[] {van, index, more};
                    }
                }
            }
            return best;
        }

        int putIn(int parcel) {
            int[] best = bestPlace(parcel);
            if (best == null) {
                throw new NoSuchElementException();
            }
            put(best[0], best[1], parcel);
            return best[0];
        }

        int putInCost(int parcel) {
            int[] best = bestPlace(parcel);
            return best == null ? NONE : best[2];
        }

        static boolean isLess(List<Integer> a, List<Integer> b) {
            for (int i = 0; i < a.size(); i++) {
                if (!a.get(i).equals(b.get(i))) {
                    return a.get(i) < b.get(i);
                }
            }
            return false;
        }

        int better(int van) {
            vanThere(van);
            remember();
            int start = cost(van, rounds.get(van));
            while (true) {
                List<Integer> row = rounds.get(van);
                List<List<Integer>> all = new ArrayList<>();
                for (int i = 0; i < row.size(); i++) {
                    for (int j = i; j <= row.size(); j++) {
                        all.add(turn(row, i, j));
                    }
                    for (int j = 0; j < row.size(); j++) {
                        List<Integer> moved = new ArrayList<>(row);
                        Integer parcel = moved.remove(i);
                        moved.add(j, parcel);
                        all.add(moved);
                    }
                }
                int least = cost(van, row);
                List<Integer> best = null;
                for (List<Integer> move : all) {
                    int cost = cost(van, move);
                    if (cost == NONE || cost >= cost(van, row)) {
                        continue;
                    }
                    if (cost < least || cost == least && isLess(move, best)) {
                        least = cost;
                        best = move;
                    }
                }
                if (best == null) {
                    return start - cost(van, row);
                }
                rounds.set(van, best);
            }
        }

        private List<Integer> bestRow;
        private int bestCost;

        /** All rows of the parcels, by rising numbers; a begun row that is late at a door is given up. */
        void allRows(int van, List<Integer> begun, List<Integer> left, int now, int at) {
            if (left.isEmpty()) {
                int cost = cost(van, begun);
                if (cost != NONE && (bestCost == NONE || cost < bestCost)) {
                    bestCost = cost;
                    bestRow = new ArrayList<>(begun);
                }
                return;
            }
            for (int i = 0; i < left.size(); i++) {
                Parcel p = parcels.get(left.get(i));
                int begin = Math.max(now + d(at, p.place), p.open);
                if (d(at, p.place) == NONE || begin > p.close || begin > vans.get(van)[2]) {
                    continue;
                }
                if (bestCost != NONE && begin - vans.get(van)[1] > bestCost) {
                    continue;
                }
                List<Integer> rest = new ArrayList<>(left);
                begun.add(rest.remove(i));
                allRows(van, begun, rest, begin + p.service, p.place);
                begun.remove(begun.size() - 1);
            }
        }

        int exactCost(int van, List<Integer> set) {
            List<Integer> sorted = new ArrayList<>(set);
            sorted.sort(null);
            bestCost = NONE;
            bestRow = null;
            allRows(van, new ArrayList<>(), sorted, vans.get(van)[1], 0);
            return bestCost;
        }

        int exact(int van) {
            vanThere(van);
            remember();
            int cost = exactCost(van, rounds.get(van));
            rounds.set(van, bestRow);
            return cost;
        }

        int roundAt(int van, int index) {
            vanThere(van);
            if (index == NONE) {
                return rounds.get(van).size();
            }
            if (index < 0 || index >= rounds.get(van).size()) {
                throw new NoSuchElementException();
            }
            return rounds.get(van).get(index);
        }

        int along(int van, int what) {
            int at = 0, sum = 0;
            for (int parcel : rounds.get(van)) {
                sum += way(at, parcels.get(parcel).place, what);
                at = parcels.get(parcel).place;
            }
            return sum + way(at, 0, what);
        }

        int ofRound(int van, int what) {
            vanThere(van);
            arg(what >= 0 && what <= 8);
            List<Integer> row = rounds.get(van);
            int[] told = drive(van, row);
            int services = 0, waits = 0, sizes = 0;
            for (int i = 0; i < row.size(); i++) {
                services += parcels.get(row.get(i)).service;
                waits += told[2 * i + 1] - told[2 * i];
                sizes += parcels.get(row.get(i)).size;
            }
            switch (what) {
                case 0: return cost(van, row);
                case 1: return along(van, 0);
                case 2: return waits;
                case 3: return along(van, 1);
                case 4: return along(van, 2);
                case 5: return sizes;
                case 6: return tree(row)[0];
                case 7: return tree(row)[0] + tree(row)[1];
                default: return tree(row)[0] + services;
            }
        }

        int weight(int a, int b) {
            return Math.min(d(a, b), d(b, a));
        }

        /** The tree of a row and its pairing. */
        int[] tree(List<Integer> row) {
            List<Integer> nodes = new ArrayList<>();
            nodes.add(0);
            for (int parcel : row) {
                if (!nodes.contains(parcels.get(parcel).place)) {
                    nodes.add(parcels.get(parcel).place);
                }
            }
            List<int[]> pairs = new ArrayList<>();
            for (int a : nodes) {
                for (int b : nodes) {
                    if (a < b) {
                        pairs.add(new int[] {weight(a, b), a, b});
                    }
                }
            }
            pairs.sort(Arrays::compare);
            int[] group = new int[16];
            int[] degree = new int[16];
            for (int i = 0; i < 16; i++) {
                group[i] = i;
            }
            int sum = 0;
            for (int[] pair : pairs) {
                int from = group[pair[1]], to = group[pair[2]];
                if (from != to) {
                    sum += pair[0];
                    degree[pair[1]]++;
                    degree[pair[2]]++;
                    for (int i = 0; i < 16; i++) {
                        group[i] = group[i] == to ? from : group[i];
                    }
                }
            }
            List<Integer> odd = new ArrayList<>();
            for (int a : nodes) {
                if (degree[a] % 2 == 1) {
                    odd.add(a);
                }
            }
            return new int[] {sum, pairing(odd)};
        }

        int pairing(List<Integer> odd) {
            if (odd.isEmpty()) {
                return 0;
            }
            int least = Integer.MAX_VALUE;
            for (int i = 1; i < odd.size(); i++) {
                List<Integer> rest = new ArrayList<>(odd);
                Integer other = rest.remove(i);
                Integer one = rest.remove(0);
                least = Math.min(least, weight(one, other) + pairing(rest));
            }
            return least;
        }

        int served(int parcel) {
            parcelThere(parcel);
            int van = vanOf(parcel);
            state(van != NONE);
            return drive(van, rounds.get(van))[2 * rounds.get(van).indexOf(parcel) + 1];
        }

        int does(int van, int minute) {
            vanThere(van);
            List<Integer> row = rounds.get(van);
            int[] told = drive(van, row);
            if (minute < vans.get(van)[1] || minute >= told[2 * row.size()]) {
                return 0;
            }
            for (int i = 0; i < row.size(); i++) {
                if (minute >= told[2 * i] && minute < told[2 * i + 1]) {
                    return 2;
                }
                if (minute >= told[2 * i + 1] && minute < told[2 * i + 1] + parcels.get(row.get(i)).service) {
                    return 3;
                }
            }
            return 1;
        }

        int undo() {
            if (history.isEmpty()) {
                throw new NoSuchElementException();
            }
            List<List<Integer>> before = history.remove(history.size() - 1);
            for (int van = 0; van < rounds.size(); van++) {
                rounds.set(van, van < before.size() ? before.get(van) : new ArrayList<>());
            }
            return history.size();
        }

        // Hours: minute by minute.

        int rules(int drive, int rest, int all) {
            arg(drive >= 30 && drive <= 600 && rest >= 5 && rest <= 120 && all >= 60 && all <= 900);
            int before = pieces.size();
            rules = new int[] {drive, rest, all};
            pieces.clear();
            return before;
        }

        int piece(int kind, int minutes) {
            arg(kind >= 0 && kind <= 2 && minutes >= 1 && minutes <= 600);
            state(pieces.size() < 60);
            pieces.add(new int[] {kind, minutes});
            int sum = 0;
            for (int[] piece : pieces) {
                sum += piece[1];
            }
            return sum;
        }

        /** The first piece that breaks a rule, driving since a rest, driving in all, rest at the end. */
        int[] walk() {
            int since = 0, all = 0, rest = 0, broken = NONE;
            for (int i = 0; i < pieces.size(); i++) {
                for (int minute = 0; minute < pieces.get(i)[1]; minute++) {
                    int kind = pieces.get(i)[0];
                    rest = kind == 2 ? rest + 1 : 0;
                    since = kind == 0 ? since + 1 : rest >= rules[1] ? 0 : since;
                    all += kind == 0 ? 1 : 0;
                    if (broken == NONE && (since > rules[0] || all > rules[2])) {
                        broken = i;
                    }
                }
            }
            return new int[] {broken, since, all, rest};
        }

        int unlawful() {
            return walk()[0];
        }

        int mayDrive(boolean isInAll) {
            int[] now = walk();
            if (now[0] != NONE) {
                return 0;
            }
            int minutes = 0;
            while (now[2] + minutes < rules[2] && (isInAll || now[1] + minutes < rules[0])) {
                minutes++;
            }
            return minutes;
        }

        int leastTime(int minutes) {
            arg(minutes >= 0 && minutes <= 900);
            int[] now = walk();
            if (now[0] != NONE || now[2] + minutes > rules[2]) {
                return NONE;
            }
            int[] fresh = new int[minutes + 1];
            for (int m = 1; m <= minutes; m++) {
                fresh[m] = m <= rules[0] ? m : Integer.MAX_VALUE;
                for (int x = 1; x <= Math.min(m, rules[0]); x++) {
                    fresh[m] = Math.min(fresh[m], x + (m == x ? 0 : rules[1] + fresh[m - x]));
                }
            }
            int least = Integer.MAX_VALUE;
            for (int x = 0; x <= Math.min(minutes, rules[0] - now[1]); x++) {
                int rest = x == 0 ? Math.max(0, rules[1] - now[3]) : rules[1];
                least = Math.min(least, x + (x == minutes ? 0 : rest + fresh[minutes - x]));
            }
            return least;
        }

        // Doors, lockers, zones.

        int door(int parcel, boolean succeeds) {
            parcelThere(parcel);
            int van = vanOf(parcel);
            Parcel p = parcels.get(parcel);
            state(p.state == 0 && van != NONE);
            List<Integer> without = new ArrayList<>(rounds.get(van));
            without.remove(Integer.valueOf(parcel));
            state(cost(van, without) != NONE);
            history.clear();
            if (succeeds) {
                p.state = 1;
                delivered++;
                rounds.set(van, without);
                return 1;
            }
            p.failures++;
            List<Integer> atEnd = new ArrayList<>(without);
            atEnd.add(parcel);
            if (p.failures < 3 && cost(van, atEnd) != NONE) {
                rounds.set(van, atEnd);
                return 0;
            }
            rounds.set(van, without);
            p.state = 3;
            int least = Integer.MAX_VALUE;
            for (int place = 15; place >= 1; place--) {
                int used = 0;
                for (Parcel other : parcels) {
                    used += other.locker == place ? 1 : 0;
                }
                if (used < slots[place] && d(p.place, place) != NONE && d(p.place, place) <= least) {
                    least = d(p.place, place);
                    p.state = 2;
                }
                if (used < slots[place] && d(p.place, place) == least) {
                    p.failures += 0;
                    bestLocker = place;
                }
            }
            if (p.state == 2) {
                p.locker = bestLocker;
            }
            return p.state;
        }

        private int bestLocker;

        int locker(int place, int many) {
            place(place);
            arg(place != 0 && many >= 1 && many <= 5);
            state(slots[place] == 0);
            slots[place] = many;
            int count = 0;
            for (int slot : slots) {
                count += slot > 0 ? 1 : 0;
            }
            return count;
        }

        int parcelAt(int parcel, int what) {
            parcelThere(parcel);
            arg(what >= 0 && what <= 6);
            Parcel p = parcels.get(parcel);
            return new int[] {p.state, p.failures, vanOf(parcel), p.locker, p.place, p.size, p.sender}[what];
        }

        int setZone(int place, int zone) {
            place(place);
            arg(place != 0 && zone >= 0 && zone <= 2);
            int before = zones[place];
            zones[place] = zone;
            return before;
        }

        int[] loads() {
            int[] loads = new int[3];
            for (Parcel p : parcels) {
                loads[zones[p.place]] += p.state == 0 ? p.size : 0;
            }
            return loads;
        }

        int spread() {
            int[] loads = loads();
            Arrays.sort(loads);
            return loads[2] - loads[0];
        }

        int balance() {
            for (int count = 0;; count++) {
                int[] loads = loads();
                int most = loads[0] >= loads[1] && loads[0] >= loads[2] ? 0 : loads[1] >= loads[2] ? 1 : 2;
                int least = loads[2] <= loads[1] && loads[2] <= loads[0] ? 2 : loads[1] <= loads[0] ? 1 : 0;
                int best = spread();
                int goes = NONE;
                for (int place = 1; place < 16; place++) {
                    boolean joins = false, waits = false;
                    for (int[] s : streets) {
                        joins |= s[0] == place && s[1] != 0 && zones[s[1]] == least;
                        joins |= s[1] == place && s[0] != 0 && zones[s[0]] == least;
                    }
                    for (Parcel p : parcels) {
                        waits |= p.place == place && p.state == 0;
                    }
                    if (zones[place] == most && joins && waits) {
                        zones[place] = least;
                        if (spread() < best) {
                            best = spread();
                            goes = place;
                        }
                        zones[place] = most;
                    }
                }
                if (goes == NONE) {
                    return count;
                }
                zones[goes] = least;
            }
        }

        int zone(boolean isLoad, int number) {
            if (number < (isLoad ? 0 : 1) || number > (isLoad ? 2 : 15)) {
                throw new IndexOutOfBoundsException();
            }
            return isLoad ? loads()[number] : zones[number];
        }

        // Shares.

        int costOf(int senders) {
            List<Integer> set = new ArrayList<>();
            for (int parcel = 0; parcel < parcels.size(); parcel++) {
                if (parcels.get(parcel).state == 0 && (senders & 1 << parcels.get(parcel).sender) != 0) {
                    set.add(parcel);
                }
            }
            return set.isEmpty() ? 0 : exactCost(0, set);
        }

        int together(int senders) {
            arg(senders >= 0 && senders <= 7);
            state(!vans.isEmpty());
            int cost = costOf(senders);
            if (cost == NONE) {
                throw new NoSuchElementException();
            }
            return cost;
        }

        int[] costs() {
            state(!vans.isEmpty());
            int[] costs = new int[8];
            for (int set = 0; set < 8; set++) {
                costs[set] = costOf(set);
                if (costs[set] == NONE) {
                    throw new NoSuchElementException();
                }
            }
            return costs;
        }

        static final int[][] ORDERS = {{0, 1, 2}, {0, 2, 1}, {1, 0, 2}, {1, 2, 0}, {2, 0, 1}, {2, 1, 0}};

        static int shareOf(int[] costs, int sender) {
            int sum = 0;
            for (int[] order : ORDERS) {
                int ahead = 0;
                for (int i = 0; order[i] != sender; i++) {
                    ahead |= 1 << order[i];
                }
                sum += costs[ahead | 1 << sender] - costs[ahead];
            }
            return sum;
        }

        int share(int sender) {
            if (sender < 0 || sender > 2) {
                throw new IndexOutOfBoundsException();
            }
            return shareOf(costs(), sender);
        }

        int blocks() {
            int[] costs = costs();
            int sets = 0;
            for (int set = 1; set < 8; set++) {
                int sum = 0;
                for (int sender = 0; sender < 3; sender++) {
                    sum += (set & 1 << sender) != 0 ? shareOf(costs, sender) : 0;
                }
                sets |= sum > 6 * costs[set] ? 1 << set : 0;
            }
            return sets;
        }

        // Pay.

        int rates(int parcel, int meters) {
            arg(parcel >= 0 && parcel <= 9999 && meters >= 0 && meters <= 9999);
            int before = parcelRate;
            parcelRate = parcel;
            meterRate = meters;
            return before;
        }

        long pay(int meters, int tip) {
            arg(meters >= 0 && meters <= 9000000 && tip >= 0 && tip <= 99999);
            state(payments.size() < 50);
            long thousandths = (long) meters * meterRate;
            long cents = thousandths / 1000 + (thousandths % 1000 >= 500 ? 1 : 0);
            cents += (long) delivered * parcelRate + tip;
            delivered = 0;
            payments.add(cents);
            return cents;
        }

        long books(int index) {
            if (index == NONE) {
                long sum = 0;
                for (long cents : payments) {
                    sum += cents;
                }
                return sum;
            }
            if (index < 0 || index >= payments.size()) {
                throw new NoSuchElementException();
            }
            return payments.get(index);
        }

        double meanPay() {
            return payments.isEmpty() ? 0.0 : (double) books(NONE) / (double) payments.size();
        }

        float filled(int van) {
            vanThere(van);
            return (float) ofRound(van, 5) / (float) vans.get(van)[0];
        }
    }
}
