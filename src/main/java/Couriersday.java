import java.util.Arrays;
import java.util.NoSuchElementException;

/** A courier's day: streets, parcels, vans and their rounds, drivers' hours, doors, zones, shares and pay. */
public final class Couriersday {
    public static final int NONE = -1;
    public static final int DRIVE = 0, WORK = 1, REST = 2;

    private static final int PLACES = 16;
    private static final int DEPOT = 0;
    private static final int MOST_STREETS = 60;
    private static final int MOST_PARCELS = 9;
    private static final int MOST_VANS = 3;
    private static final int SENDERS = 3;
    private static final int SENDER_SETS = 1 << SENDERS;
    private static final int ALL_SENDERS = SENDER_SETS - 1;
    private static final int ZONES = 3;
    private static final int HOURS = 24;
    private static final int HOUR = 60;
    private static final int DAY = HOURS * HOUR;
    private static final int WAITING = 0, DELIVERED = 1, IN_LOCKER = 2, BACK = 3;
    private static final int MOST_FAILURES = 3;
    private static final int MOST_PIECES = 60;
    private static final int MOST_TO_DRIVE = 900;
    private static final int MOST_CHANGES = 20;
    private static final int MOST_PAYMENTS = 50;
    /** Far above the steps that any search here can need, so that each loop has an end to be seen. */
    private static final int ENOUGH = 1000000;
    /** Above each sum of minutes of pairs. */
    private static final int FAR = 10000000;

    private final Streets streets;
    private final Fleet fleet;
    private final Rounds rounds;
    private final History history;
    private final Search search;
    private final ExactRound best;
    private final Tree tree;
    private final Hours hours;
    private final Doors doors;
    private final Shares shares;
    private final Ledger ledger;
    private final int[] draft;
    private final int[] otherDraft;

    public Couriersday() {
        streets = new Streets();
        fleet = new Fleet(streets);
        rounds = new Rounds(fleet);
        history = new History();
        search = new Search(fleet, rounds);
        best = new ExactRound(fleet);
        tree = new Tree(streets);
        hours = new Hours();
        doors = new Doors(fleet);
        shares = new Shares(fleet, best);
        ledger = new Ledger();
        draft = new int[MOST_PARCELS];
        otherDraft = new int[MOST_PARCELS];
    }

    // ---- streets

    public int street(int from, int to, int minutes, int meters, int toll)
            throws IndexOutOfBoundsException, IllegalArgumentException, IllegalStateException {
        needPlace(from);
        needPlace(to);
        needThat(from != to);
        needRange(minutes, 1, 120);
        needRange(meters, 1, 50000);
        needRange(toll, 0, 9999);
        needState(streets.count < MOST_STREETS && rounds.areEmpty());
        streets.add(from, to, minutes, meters, toll);
        return streets.count;
    }

    public int factor(int hour, int factor) throws IllegalArgumentException {
        needRange(hour, 0, HOURS - 1);
        needRange(factor, 50, 300);
        int before = streets.factors[hour];
        streets.factors[hour] = factor;
        return before;
    }

    public int way(int from, int to, int what) throws IndexOutOfBoundsException, IllegalArgumentException {
        needPlace(from);
        needPlace(to);
        needRange(what, 0, 2);
        return streets.ofWay(from, to, what);
    }

    public int arrival(int from, int to, int minute) throws IndexOutOfBoundsException, IllegalArgumentException {
        needPlace(from);
        needPlace(to);
        needRange(minute, 0, DAY - 1);
        return streets.earliest(from, to, minute);
    }

    public int clock(int hour, int minute, int later) throws IllegalArgumentException {
        needRange(hour, 0, HOURS - 1);
        needRange(minute, 0, HOUR - 1);
        needRange(later, 0, 100000);
        return (hour * HOUR + minute + later) % DAY;
    }

    // ---- parcels, vans

    public int parcel(int place, int size, int sender)
            throws IndexOutOfBoundsException, IllegalArgumentException, IllegalStateException {
        needPlace(place);
        needSender(sender);
        needThat(place != DEPOT);
        needRange(size, 1, 100);
        needState(fleet.parcels < MOST_PARCELS);
        return fleet.addParcel(place, size, sender);
    }

    public int window(int parcel, int from, int to, int service)
            throws IndexOutOfBoundsException, IllegalArgumentException, IllegalStateException {
        needParcel(parcel);
        needRange(from, 0, DAY - 1);
        needRange(to, from, DAY - 1);
        needRange(service, 0, 60);
        needState(rounds.vanWith(parcel) == NONE);
        // A round that is undone to must be kept, and a changed window could break it.
        history.forget();
        int before = fleet.service[parcel];
        fleet.opens[parcel] = from;
        fleet.closes[parcel] = to;
        fleet.service[parcel] = service;
        return before;
    }

    public int van(int room, int begins, int back) throws IllegalArgumentException, IllegalStateException {
        needRange(room, 1, 900);
        needRange(begins, 0, DAY - 1);
        needRange(back, begins, 2000);
        needState(fleet.vans < MOST_VANS);
        return fleet.addVan(room, begins, back);
    }

    // ---- rounds

    public int put(int van, int index, int parcel) throws IndexOutOfBoundsException, IllegalStateException {
        needVan(van);
        needParcel(parcel);
        needIndex(index, 0, rounds.lengths[van]);
        needState(rounds.canTake(parcel));
        int length = Rounds.insert(rounds.rows[van], rounds.lengths[van], index, parcel, draft);
        return changeRound(van, length);
    }

    public int takeOut(int parcel) throws IndexOutOfBoundsException, IllegalStateException {
        needParcel(parcel);
        int van = rounds.vanWith(parcel);
        needState(van != NONE);
        changeRound(van, rounds.without(van, parcel, draft));
        return van;
    }

    public int turned(int van, int from, int to) throws IndexOutOfBoundsException, IllegalStateException {
        needVan(van);
        needIndex(from, 0, rounds.lengths[van]);
        needIndex(to, from, rounds.lengths[van]);
        Rounds.turn(rounds.rows[van], rounds.lengths[van], from, to, draft);
        return changeRound(van, rounds.lengths[van]);
    }

    public int swapEnds(int van, int index, int other, int otherIndex)
            throws IndexOutOfBoundsException, IllegalArgumentException, IllegalStateException {
        needVan(van);
        needVan(other);
        needIndex(index, 0, rounds.lengths[van]);
        needIndex(otherIndex, 0, rounds.lengths[other]);
        needThat(van != other);
        int length = rounds.joinEnds(van, index, other, otherIndex, draft);
        int otherLength = rounds.joinEnds(other, otherIndex, van, index, otherDraft);
        int cost = fleet.costOf(van, draft, length);
        int otherCost = fleet.costOf(other, otherDraft, otherLength);
        needState(cost != NONE && otherCost != NONE);
        history.remember(rounds);
        rounds.replace(van, draft, length);
        rounds.replace(other, otherDraft, otherLength);
        return cost + otherCost;
    }

    public int savings(int van) throws IndexOutOfBoundsException, IllegalStateException {
        needVan(van);
        needState(rounds.lengths[van] == 0);
        history.remember(rounds);
        search.makeBySavings(van);
        return rounds.lengths[van];
    }

    public int putIn(int parcel) throws IndexOutOfBoundsException, IllegalStateException, NoSuchElementException {
        needParcel(parcel);
        needState(rounds.canTake(parcel));
        search.findPlace(parcel);
        int van = search.foundVan;
        needElement(van != NONE);
        int length = Rounds.insert(rounds.rows[van], rounds.lengths[van], search.foundIndex, parcel, draft);
        changeRound(van, length);
        return van;
    }

    public int putInCost(int parcel) throws IndexOutOfBoundsException, IllegalStateException {
        needParcel(parcel);
        needState(rounds.canTake(parcel));
        search.findPlace(parcel);
        return search.foundVan == NONE ? NONE : search.foundIncrease;
    }

    public int better(int van) throws IndexOutOfBoundsException {
        needVan(van);
        history.remember(rounds);
        int before = rounds.costNow(van);
        int step = 0;
        while (step < ENOUGH && search.makeBestMove(van)) {
            step++;
        }
        return before - rounds.costNow(van);
    }

    public int exact(int van) throws IndexOutOfBoundsException {
        needVan(van);
        history.remember(rounds);
        chooseRound(van);
        best.writeLeast(van, rounds.rows[van]);
        return rounds.costNow(van);
    }

    public int roundAt(int van, int index) throws IndexOutOfBoundsException, NoSuchElementException {
        needVan(van);
        if (index == NONE) {
            return rounds.lengths[van];
        }
        needElement(index >= 0 && index < rounds.lengths[van]);
        return rounds.rows[van][index];
    }

    public int ofRound(int van, int what) throws IndexOutOfBoundsException, IllegalArgumentException {
        needVan(van);
        needRange(what, 0, 8);
        switch (what) {
            case 0:
                return rounds.costNow(van);
            case 1:
                return rounds.sumOfWays(van, 0);
            case 2:
                return rounds.costNow(van) - rounds.sumOfWays(van, 0) - rounds.sumOfServices(van);
            case 3:
                return rounds.sumOfWays(van, 1);
            case 4:
                return rounds.sumOfWays(van, 2);
            case 5:
                return rounds.sumOfSizes(van);
            default:
                return boundBelow(van, what);
        }
    }

    public int served(int parcel) throws IndexOutOfBoundsException, IllegalStateException {
        needParcel(parcel);
        int van = rounds.vanWith(parcel);
        needState(van != NONE);
        return rounds.serviceBegins(van, parcel);
    }

    public int does(int van, int minute) throws IndexOutOfBoundsException {
        needVan(van);
        return rounds.doingAt(van, minute);
    }

    public int undo() throws NoSuchElementException {
        needElement(history.count > 0);
        history.restore(rounds);
        return history.count;
    }

    // ---- hours

    public int rules(int drive, int rest, int all) throws IllegalArgumentException {
        needRange(drive, 30, 600);
        needRange(rest, 5, 120);
        needRange(all, 60, 900);
        return hours.begin(drive, rest, all);
    }

    public int piece(int kind, int minutes) throws IllegalArgumentException, IllegalStateException {
        needRange(kind, DRIVE, REST);
        needRange(minutes, 1, 600);
        needState(hours.count < MOST_PIECES);
        return hours.add(kind, minutes);
    }

    public int unlawful() {
        return hours.firstBroken();
    }

    public int mayDrive(boolean isInAll) {
        return isInAll ? hours.leftInAll() : hours.leftWithoutRest();
    }

    public int leastTime(int minutes) throws IllegalArgumentException {
        needRange(minutes, 0, MOST_TO_DRIVE);
        return hours.timeFor(minutes);
    }

    // ---- doors, zones

    public int door(int parcel, boolean succeeds) throws IndexOutOfBoundsException, IllegalStateException {
        needParcel(parcel);
        int van = rounds.vanWith(parcel);
        needState(van != NONE && fleet.states[parcel] == WAITING);
        int left = rounds.without(van, parcel, draft);
        needState(fleet.costOf(van, draft, left) != NONE);
        history.forget();
        if (succeeds) {
            fleet.states[parcel] = DELIVERED;
            ledger.delivered++;
            rounds.replace(van, draft, left);
        } else {
            failAtDoor(van, parcel, left);
        }
        return fleet.states[parcel];
    }

    public int locker(int place, int slots)
            throws IndexOutOfBoundsException, IllegalArgumentException, IllegalStateException {
        needPlace(place);
        needThat(place != DEPOT);
        needRange(slots, 1, 5);
        needState(doors.slots[place] == 0);
        return doors.addLocker(place, slots);
    }

    public int parcelAt(int parcel, int what) throws IndexOutOfBoundsException, IllegalArgumentException {
        needParcel(parcel);
        needRange(what, 0, 6);
        switch (what) {
            case 0:
                return fleet.states[parcel];
            case 1:
                return fleet.failures[parcel];
            case 2:
                return rounds.vanWith(parcel);
            case 3:
                return fleet.lockers[parcel];
            case 4:
                return fleet.places[parcel];
            case 5:
                return fleet.sizes[parcel];
            default:
                return fleet.senders[parcel];
        }
    }

    public int setZone(int place, int zone) throws IndexOutOfBoundsException, IllegalArgumentException {
        needPlace(place);
        needThat(place != DEPOT);
        needRange(zone, 0, ZONES - 1);
        int before = doors.zones[place];
        doors.zones[place] = zone;
        return before;
    }

    public int balance() {
        int moved = 0;
        while (moved < ENOUGH && doors.balanceOnce()) {
            moved++;
        }
        return moved;
    }

    public int zone(boolean isLoad, int number) throws IndexOutOfBoundsException {
        if (isLoad) {
            needIndex(number, 0, ZONES - 1);
            return doors.loadOf(number);
        }
        needIndex(number, DEPOT + 1, PLACES - 1);
        return doors.zones[number];
    }

    // ---- shares

    public int together(int senders) throws IllegalArgumentException, IllegalStateException, NoSuchElementException {
        needRange(senders, 0, ALL_SENDERS);
        needState(fleet.vans > 0);
        int cost = shares.costOfSet(senders);
        needElement(cost != NONE);
        return cost;
    }

    public int share(int sender) throws IndexOutOfBoundsException, IllegalStateException, NoSuchElementException {
        needSender(sender);
        needState(fleet.vans > 0);
        needElement(shares.reckon());
        return shares.sixfold(sender);
    }

    public int blocks() throws IllegalStateException, NoSuchElementException {
        needState(fleet.vans > 0);
        needElement(shares.reckon());
        return shares.blockingSets();
    }

    // ---- pay

    public int rates(int parcel, int meters) throws IllegalArgumentException {
        needRange(parcel, 0, 9999);
        needRange(meters, 0, 9999);
        int before = ledger.parcelRate;
        ledger.parcelRate = parcel;
        ledger.meterRate = meters;
        return before;
    }

    public long pay(int meters, int tip) throws IllegalArgumentException, IllegalStateException {
        needRange(meters, 0, 9000000);
        needRange(tip, 0, 99999);
        needState(ledger.count < MOST_PAYMENTS);
        return ledger.enter(meters, tip);
    }

    public long books(int index) throws NoSuchElementException {
        if (index == NONE) {
            return ledger.sum;
        }
        needElement(index >= 0 && index < ledger.count);
        return ledger.payments[index];
    }

    // ---- measures

    public double meanPay() {
        return ledger.count == 0 ? 0.0 : (double) ledger.sum / (double) ledger.count;
    }

    public float filled(int van) throws IndexOutOfBoundsException {
        needVan(van);
        return (float) rounds.sumOfSizes(van) / (float) fleet.rooms[van];
    }

    public int errors() {
        int wrong = streets.wrongWays() + hours.wrongTimes() + ledger.wrongSums();
        for (int van = 0; van < fleet.vans; van++) {
            wrong += wrongInRound(van) + wrongInTree(van);
        }
        if (fleet.vans > 0 && shares.reckon() && !shares.sumUp()) {
            wrong++;
        }
        return wrong;
    }

    // ---- what the calls share

    private static void needPlace(int place) {
        needIndex(place, 0, PLACES - 1);
    }

    private static void needSender(int sender) {
        needIndex(sender, 0, SENDERS - 1);
    }

    private void needParcel(int parcel) {
        needIndex(parcel, 0, fleet.parcels - 1);
    }

    private void needVan(int van) {
        needIndex(van, 0, fleet.vans - 1);
    }

    private static void needIndex(int index, int least, int most) {
        if (index < least || index > most) {
            throw new IndexOutOfBoundsException();
        }
    }

    private static void needRange(int number, int least, int most) {
        needThat(number >= least && number <= most);
    }

    private static void needThat(boolean isGood) {
        if (!isGood) {
            throw new IllegalArgumentException();
        }
    }

    private static void needState(boolean isGood) {
        if (!isGood) {
            throw new IllegalStateException();
        }
    }

    private static void needElement(boolean isThere) {
        if (!isThere) {
            throw new NoSuchElementException();
        }
    }

    /** Makes the draft the round of a van, if it is kept; returns its cost. */
    private int changeRound(int van, int length) {
        int cost = fleet.costOf(van, draft, length);
        needState(cost != NONE);
        history.remember(rounds);
        rounds.replace(van, draft, length);
        return cost;
    }

    private void chooseRound(int van) {
        best.chooseNone();
        for (int parcel = 0; parcel < fleet.parcels; parcel++) {
            if (rounds.vanWith(parcel) == van) {
                best.choose(parcel);
            }
        }
    }

    private int boundBelow(int van, int what) {
        int sum = tree.grow(fleet, rounds.rows[van], rounds.lengths[van]);
        if (what == 7) {
            return sum + tree.leastPairing();
        }
        return what == 8 ? sum + rounds.sumOfServices(van) : sum;
    }

    /** The draft holds the round without the parcel. */
    private void failAtDoor(int van, int parcel, int left) {
        fleet.failures[parcel]++;
        if (fleet.failures[parcel] < MOST_FAILURES && left < draft.length) {
            draft[left] = parcel;
            if (fleet.costOf(van, draft, left + 1) != NONE) {
                rounds.replace(van, draft, left + 1);
                return;
            }
        }
        rounds.replace(van, draft, left);
        doors.sendAway(parcel);
    }

    private int wrongInRound(int van) {
        int cost = rounds.costNow(van);
        if (cost == NONE) {
            return 1;
        }
        chooseRound(van);
        best.drive(van);
        int least = best.costOfSet(van, best.all());
        int wrong = cost < boundBelow(van, 8) ? 1 : 0;
        return least == NONE || cost < least ? wrong + 1 : wrong;
    }

    /** Where all ways take the same both ways, each tour drives the tree at least, and the pairing twice. */
    private int wrongInTree(int van) {
        int sum = tree.grow(fleet, rounds.rows[van], rounds.lengths[van]);
        if (!tree.isSameBothWays()) {
            return 0;
        }
        int driving = rounds.sumOfWays(van, 0);
        int wrong = sum > driving || sum != tree.sumFromDepot() ? 1 : 0;
        return 2 * tree.leastPairing() > driving ? wrong + 1 : wrong;
    }

    /** Streets, the least ways that they make, and the factors of the hours. */
    private static final class Streets {
        final int[] from = new int[MOST_STREETS];
        final int[] to = new int[MOST_STREETS];
        private final int[] minutes = new int[MOST_STREETS];
        int count;
        private final int[] wayMinutes = new int[PLACES * PLACES];
        private final int[] wayMeters = new int[PLACES * PLACES];
        private final int[] wayToll = new int[PLACES * PLACES];
        final int[] factors = new int[HOURS];
        private final int[] reached = new int[PLACES];
        private final boolean[] isLeft = new boolean[PLACES];

        Streets() {
            Arrays.fill(wayMinutes, NONE);
            Arrays.fill(wayMeters, NONE);
            Arrays.fill(wayToll, NONE);
            for (int place = 0; place < PLACES; place++) {
                int way = place * PLACES + place;
                wayMinutes[way] = 0;
                wayMeters[way] = 0;
                wayToll[way] = 0;
            }
            Arrays.fill(factors, 100);
        }

        int minutesOf(int start, int end) {
            return wayMinutes[start * PLACES + end];
        }

        int ofWay(int start, int end, int what) {
            int way = start * PLACES + end;
            if (what == 0) {
                return wayMinutes[way];
            }
            return what == 1 ? wayMeters[way] : wayToll[way];
        }

        /** No least way goes through the new street twice: those to its begin and from its end stay meanwhile. */
        void add(int begin, int goal, int itsMinutes, int meters, int toll) {
            from[count] = begin;
            to[count] = goal;
            minutes[count] = itsMinutes;
            count++;
            for (int start = 0; start < PLACES; start++) {
                int ahead = start * PLACES + begin;
                for (int end = 0; end < PLACES && wayMinutes[ahead] != NONE; end++) {
                    int behind = goal * PLACES + end;
                    if (wayMinutes[behind] != NONE) {
                        shorten(start * PLACES + end, wayMinutes[ahead] + itsMinutes + wayMinutes[behind],
                                wayMeters[ahead] + meters + wayMeters[behind],
                                wayToll[ahead] + toll + wayToll[behind]);
                    }
                }
            }
        }

        private void shorten(int way, int newMinutes, int newMeters, int newToll) {
            if (isLess(way, newMinutes, newMeters, newToll)) {
                wayMinutes[way] = newMinutes;
                wayMeters[way] = newMeters;
                wayToll[way] = newToll;
            }
        }

        private boolean isLess(int way, int newMinutes, int newMeters, int newToll) {
            if (wayMinutes[way] == NONE || newMinutes != wayMinutes[way]) {
                return wayMinutes[way] == NONE || newMinutes < wayMinutes[way];
            }
            return newMeters != wayMeters[way] ? newMeters < wayMeters[way] : newToll < wayToll[way];
        }

        int earliest(int start, int goal, int minute) {
            for (int place = 0; place < PLACES; place++) {
                reached[place] = NONE;
                isLeft[place] = false;
            }
            reached[start] = minute;
            for (int step = 0; step < PLACES; step++) {
                int place = firstToLeave();
                if (place == NONE || place == goal) {
                    break;
                }
                isLeft[place] = true;
                leave(place);
            }
            return reached[goal];
        }

        private int firstToLeave() {
            int first = NONE;
            for (int place = 0; place < PLACES; place++) {
                if (!isLeft[place] && reached[place] != NONE && (first == NONE || reached[place] < reached[first])) {
                    first = place;
                }
            }
            return first;
        }

        private void leave(int place) {
            for (int street = 0; street < count; street++) {
                if (from[street] == place) {
                    int end = endOf(street, reached[place]);
                    if (reached[to[street]] == NONE || end < reached[to[street]]) {
                        reached[to[street]] = end;
                    }
                }
            }
        }

        /** Within an hour it never helps to wait: only the begins of later hours are tried. */
        private int endOf(int street, int minute) {
            int end = minute + timeIn(street, minute);
            for (int later = (minute / HOUR + 1) * HOUR; later < end; later += HOUR) {
                end = Math.min(end, later + timeIn(street, later));
            }
            return end;
        }

        private int timeIn(int street, int minute) {
            return (minutes[street] * factors[minute / HOUR % HOURS] + 99) / 100;
        }

        /** Whether a street leads from one place to the other one, either way. */
        boolean hasStreet(int place, int other) {
            for (int street = 0; street < count; street++) {
                boolean isThere = from[street] == place && to[street] == other;
                if (isThere || from[street] == other && to[street] == place) {
                    return true;
                }
            }
            return false;
        }

        int wrongWays() {
            int wrong = 0;
            for (int street = 0; street < count; street++) {
                int least = minutesOf(from[street], to[street]);
                if (least == NONE || least > minutes[street]) {
                    wrong++;
                }
            }
            for (int start = 0; start < PLACES; start++) {
                for (int end = 0; end < PLACES; end++) {
                    wrong += longerThanOver(start, end);
                }
            }
            return wrong;
        }

        private int longerThanOver(int start, int end) {
            int least = minutesOf(start, end);
            int wrong = 0;
            for (int over = 0; over < PLACES; over++) {
                int first = minutesOf(start, over);
                int second = minutesOf(over, end);
                if (first != NONE && second != NONE && (least == NONE || least > first + second)) {
                    wrong++;
                }
            }
            return wrong;
        }
    }

    /** The parcels and the vans, and how a van drives a row of parcels. */
    private static final class Fleet {
        final Streets streets;
        final int[] places = new int[MOST_PARCELS];
        final int[] sizes = new int[MOST_PARCELS];
        final int[] senders = new int[MOST_PARCELS];
        final int[] opens = new int[MOST_PARCELS];
        final int[] closes = new int[MOST_PARCELS];
        final int[] service = new int[MOST_PARCELS];
        final int[] states = new int[MOST_PARCELS];
        final int[] failures = new int[MOST_PARCELS];
        final int[] lockers = new int[MOST_PARCELS];
        int parcels;
        final int[] rooms = new int[MOST_VANS];
        final int[] begins = new int[MOST_VANS];
        final int[] backs = new int[MOST_VANS];
        int vans;

        Fleet(Streets streets) {
            this.streets = streets;
        }

        int addParcel(int place, int size, int sender) {
            int parcel = parcels;
            parcels++;
            places[parcel] = place;
            sizes[parcel] = size;
            senders[parcel] = sender;
            opens[parcel] = 0;
            closes[parcel] = DAY - 1;
            service[parcel] = 0;
            states[parcel] = WAITING;
            failures[parcel] = 0;
            lockers[parcel] = NONE;
            return parcel;
        }

        int addVan(int room, int begin, int back) {
            int van = vans;
            vans++;
            rooms[van] = room;
            begins[van] = begin;
            backs[van] = back;
            return van;
        }

        /** The cost of a row as the round of a van; NONE if it is not kept. */
        int costOf(int van, int[] row, int length) {
            int minute = begins[van];
            int place = DEPOT;
            int size = 0;
            for (int i = 0; i < length; i++) {
                int parcel = row[i];
                minute = serveAt(parcel, place, minute);
                if (minute == NONE) {
                    return NONE;
                }
                minute += service[parcel];
                size += sizes[parcel];
                place = places[parcel];
            }
            int home = streets.minutesOf(place, DEPOT);
            boolean isKept = home != NONE && minute + home <= backs[van] && size <= rooms[van];
            return isKept ? minute + home - begins[van] : NONE;
        }

        /** The minute at which the service begins for one who leaves a place at a minute; NONE if it can't. */
        int serveAt(int parcel, int place, int minute) {
            int drive = streets.minutesOf(place, places[parcel]);
            if (drive == NONE) {
                return NONE;
            }
            int begin = Math.max(minute + drive, opens[parcel]);
            return begin > closes[parcel] ? NONE : begin;
        }

        /** What joining one row that ends with a parcel and one that begins with another saves. */
        int savingOf(int last, int first) {
            return streets.minutesOf(places[last], DEPOT) + streets.minutesOf(DEPOT, places[first])
                    - streets.minutesOf(places[last], places[first]);
        }
    }

    /** The rounds of the vans; all of them are kept. */
    private static final class Rounds {
        private final Fleet fleet;
        final int[][] rows = new int[MOST_VANS][MOST_PARCELS];
        final int[] lengths = new int[MOST_VANS];

        Rounds(Fleet fleet) {
            this.fleet = fleet;
        }

        boolean areEmpty() {
            return lengths[0] == 0 && lengths[1] == 0 && lengths[2] == 0;
        }

        int indexIn(int van, int parcel) {
            for (int i = 0; i < lengths[van]; i++) {
                if (rows[van][i] == parcel) {
                    return i;
                }
            }
            return NONE;
        }

        int vanWith(int parcel) {
            for (int van = 0; van < MOST_VANS; van++) {
                if (indexIn(van, parcel) != NONE) {
                    return van;
                }
            }
            return NONE;
        }

        boolean canTake(int parcel) {
            return fleet.states[parcel] == WAITING && vanWith(parcel) == NONE;
        }

        void replace(int van, int[] row, int length) {
            System.arraycopy(row, 0, rows[van], 0, length);
            lengths[van] = length;
        }

        static int insert(int[] row, int length, int index, int parcel, int[] into) {
            System.arraycopy(row, 0, into, 0, index);
            into[index] = parcel;
            System.arraycopy(row, index, into, index + 1, length - index);
            return length + 1;
        }

        static int remove(int[] row, int length, int index, int[] into) {
            System.arraycopy(row, 0, into, 0, index);
            System.arraycopy(row, index + 1, into, index, length - index - 1);
            return length - 1;
        }

        static void turn(int[] row, int length, int start, int end, int[] into) {
            System.arraycopy(row, 0, into, 0, length);
            for (int i = start; i < end; i++) {
                into[i] = row[start + end - 1 - i];
            }
        }

        int without(int van, int parcel, int[] into) {
            int index = indexIn(van, parcel);
            return index == NONE ? 0 : remove(rows[van], lengths[van], index, into);
        }

        /** The begin of one round, up to an index, and the end of another one, from an index on. */
        int joinEnds(int van, int index, int other, int otherIndex, int[] into) {
            System.arraycopy(rows[van], 0, into, 0, index);
            System.arraycopy(rows[other], otherIndex, into, index, lengths[other] - otherIndex);
            return index + lengths[other] - otherIndex;
        }

        int costNow(int van) {
            return fleet.costOf(van, rows[van], lengths[van]);
        }

        int sumOfWays(int van, int what) {
            int place = DEPOT;
            int sum = 0;
            for (int i = 0; i < lengths[van]; i++) {
                int next = fleet.places[rows[van][i]];
                sum += fleet.streets.ofWay(place, next, what);
                place = next;
            }
            return sum + fleet.streets.ofWay(place, DEPOT, what);
        }

        int sumOfServices(int van) {
            int sum = 0;
            for (int i = 0; i < lengths[van]; i++) {
                sum += fleet.service[rows[van][i]];
            }
            return sum;
        }

        int sumOfSizes(int van) {
            int sum = 0;
            for (int i = 0; i < lengths[van]; i++) {
                sum += fleet.sizes[rows[van][i]];
            }
            return sum;
        }

        int serviceBegins(int van, int parcel) {
            int minute = fleet.begins[van];
            int place = DEPOT;
            for (int i = 0; i < lengths[van]; i++) {
                int next = rows[van][i];
                minute = fleet.serveAt(next, place, minute);
                if (next == parcel) {
                    break;
                }
                minute += fleet.service[next];
                place = fleet.places[next];
            }
            return minute;
        }

        int doingAt(int van, int minute) {
            int now = fleet.begins[van];
            if (minute < now || minute - now >= costNow(van)) {
                return 0;
            }
            int place = DEPOT;
            for (int i = 0; i < lengths[van]; i++) {
                int next = rows[van][i];
                int come = now + fleet.streets.minutesOf(place, fleet.places[next]);
                int begin = fleet.serveAt(next, place, now);
                now = begin + fleet.service[next];
                if (minute < now) {
                    return minute < come ? 1 : minute < begin ? 2 : 3;
                }
                place = fleet.places[next];
            }
            return 1;
        }
    }

    /** The rounds as they stood ahead of the latest changes, in a ring. */
    private static final class History {
        private static final int ENTRY = MOST_VANS + MOST_PARCELS;
        private final int[] kept = new int[MOST_CHANGES * ENTRY];
        private int first;
        int count;

        void forget() {
            count = 0;
        }

        void remember(Rounds rounds) {
            if (count == MOST_CHANGES) {
                first = (first + 1) % MOST_CHANGES;
                count--;
            }
            int at = (first + count) % MOST_CHANGES * ENTRY;
            count++;
            int row = at + MOST_VANS;
            for (int van = 0; van < MOST_VANS; van++) {
                kept[at + van] = rounds.lengths[van];
                System.arraycopy(rounds.rows[van], 0, kept, row, rounds.lengths[van]);
                row += rounds.lengths[van];
            }
        }

        void restore(Rounds rounds) {
            count--;
            int at = (first + count) % MOST_CHANGES * ENTRY;
            int row = at + MOST_VANS;
            for (int van = 0; van < MOST_VANS; van++) {
                rounds.lengths[van] = kept[at + van];
                System.arraycopy(kept, row, rounds.rows[van], 0, rounds.lengths[van]);
                row += rounds.lengths[van];
            }
        }
    }

    /** Putting parcels in, bettering rounds, and making them by savings. */
    private static final class Search {
        private final Fleet fleet;
        private final Rounds rounds;
        private final int[] tried = new int[MOST_PARCELS];
        private final int[] taken = new int[MOST_PARCELS];
        private final int[] rest = new int[MOST_PARCELS];
        private int leastCost;
        private boolean isFound;
        int foundVan;
        int foundIndex;
        int foundIncrease;
        private final int[][] pieces = new int[MOST_PARCELS][MOST_PARCELS];
        private final int[] lengths = new int[MOST_PARCELS];
        private int greatestSaving;
        private int firstPiece;
        private int secondPiece;

        Search(Fleet fleet, Rounds rounds) {
            this.fleet = fleet;
            this.rounds = rounds;
        }

        void findPlace(int parcel) {
            foundVan = NONE;
            for (int van = 0; van < fleet.vans; van++) {
                int before = rounds.costNow(van);
                for (int index = 0; index <= rounds.lengths[van]; index++) {
                    int length = Rounds.insert(rounds.rows[van], rounds.lengths[van], index, parcel, tried);
                    int cost = fleet.costOf(van, tried, length);
                    if (cost != NONE && (foundVan == NONE || cost - before < foundIncrease)) {
                        foundVan = van;
                        foundIndex = index;
                        foundIncrease = cost - before;
                    }
                }
            }
        }

        /** Makes the move of a lesser cost that gives the least round, if there is one. */
        boolean makeBestMove(int van) {
            int length = rounds.lengths[van];
            leastCost = rounds.costNow(van);
            isFound = false;
            tryTurns(van, length);
            tryMoves(van, length);
            if (isFound) {
                rounds.replace(van, taken, length);
            }
            return isFound;
        }

        private void tryTurns(int van, int length) {
            for (int start = 0; start < length; start++) {
                for (int end = start + 2; end <= length; end++) {
                    Rounds.turn(rounds.rows[van], length, start, end, tried);
                    takeIfLeast(van, length);
                }
            }
        }

        private void tryMoves(int van, int length) {
            for (int index = 0; index < length; index++) {
                int left = Rounds.remove(rounds.rows[van], length, index, rest);
                for (int goal = 0; goal < length; goal++) {
                    if (goal != index) {
                        Rounds.insert(rest, left, goal, rounds.rows[van][index], tried);
                        takeIfLeast(van, length);
                    }
                }
            }
        }

        private void takeIfLeast(int van, int length) {
            int cost = fleet.costOf(van, tried, length);
            if (cost == NONE || cost > leastCost) {
                return;
            }
            if (cost < leastCost || isFound && isTriedFirst(length)) {
                leastCost = cost;
                isFound = true;
                System.arraycopy(tried, 0, taken, 0, length);
            }
        }

        private boolean isTriedFirst(int length) {
            for (int i = 0; i < length; i++) {
                if (tried[i] != taken[i]) {
                    return tried[i] < taken[i];
                }
            }
            return false;
        }

        /** A piece bears the number of its first parcel, which joining at its end leaves as it is. */
        void makeBySavings(int van) {
            beginPieces(van);
            for (int step = 0; step < MOST_PARCELS && findJoin(van); step++) {
                lengths[firstPiece] = join(firstPiece, secondPiece, pieces[firstPiece]);
                lengths[secondPiece] = 0;
            }
            int longest = longestPiece();
            rounds.replace(van, pieces[longest], lengths[longest]);
        }

        private void beginPieces(int van) {
            for (int parcel = 0; parcel < MOST_PARCELS; parcel++) {
                pieces[parcel][0] = parcel;
                boolean isPiece = parcel < fleet.parcels && rounds.canTake(parcel)
                        && fleet.costOf(van, pieces[parcel], 1) != NONE;
                lengths[parcel] = isPiece ? 1 : 0;
            }
        }

        private int join(int first, int second, int[] into) {
            System.arraycopy(pieces[first], 0, into, 0, lengths[first]);
            System.arraycopy(pieces[second], 0, into, lengths[first], lengths[second]);
            return lengths[first] + lengths[second];
        }

        private boolean findJoin(int van) {
            isFound = false;
            greatestSaving = 0;
            for (int last = 0; last < fleet.parcels; last++) {
                int first = pieceThatEndsWith(last);
                for (int second = 0; second < fleet.parcels && first != NONE; second++) {
                    if (second != first && lengths[second] > 0) {
                        tryJoin(van, first, second);
                    }
                }
            }
            return isFound;
        }

        private void tryJoin(int van, int first, int second) {
            int saving = fleet.savingOf(pieces[first][lengths[first] - 1], second);
            if (isFound && saving <= greatestSaving) {
                return;
            }
            int length = join(first, second, tried);
            if (fleet.costOf(van, tried, length) != NONE) {
                isFound = true;
                greatestSaving = saving;
                firstPiece = first;
                secondPiece = second;
            }
        }

        private int pieceThatEndsWith(int last) {
            for (int piece = 0; piece < MOST_PARCELS; piece++) {
                if (lengths[piece] > 0 && pieces[piece][lengths[piece] - 1] == last) {
                    return piece;
                }
            }
            return NONE;
        }

        private int longestPiece() {
            int longest = 0;
            for (int piece = 1; piece < MOST_PARCELS; piece++) {
                if (lengths[piece] > lengths[longest]) {
                    longest = piece;
                }
            }
            return longest;
        }
    }

    /** The least rounds of all sets of some parcels, found set by set. */
    private static final class ExactRound {
        private static final int SETS = 1 << MOST_PARCELS;
        private final Fleet fleet;
        private final int[] chosen = new int[MOST_PARCELS];
        private int count;
        /** For a set and its last parcel: the least minute at which the service of the last one ends. */
        private final int[] ends = new int[SETS * MOST_PARCELS];
        /** For a set that is left and a parcel ahead of it: the latest minute to come there and be back in time. */
        private final int[] latest = new int[SETS * MOST_PARCELS];

        ExactRound(Fleet fleet) {
            this.fleet = fleet;
        }

        void chooseNone() {
            count = 0;
        }

        /** Parcels are chosen by rising numbers, so that rows of them compare as their places here do. */
        void choose(int parcel) {
            if (count < MOST_PARCELS) {
                chosen[count] = parcel;
                count++;
            }
        }

        int all() {
            return (1 << count) - 1;
        }

        /** To come earlier never makes what follows later: for each set and last parcel the least end will do. */
        void drive(int van) {
            for (int set = 1; set <= all(); set++) {
                for (int last = 0; last < count; last++) {
                    if (has(set, last)) {
                        ends[set * MOST_PARCELS + last] = leastEnd(van, set, last);
                    }
                }
            }
        }

        private static boolean has(int set, int one) {
            return (set >> one & 1) == 1;
        }

        private int leastEnd(int van, int set, int last) {
            int ahead = set ^ 1 << last;
            int parcel = chosen[last];
            int begin = ahead == 0 ? fleet.serveAt(parcel, DEPOT, fleet.begins[van]) : NONE;
            for (int prior = 0; prior < count; prior++) {
                int end = has(ahead, prior) ? ends[ahead * MOST_PARCELS + prior] : NONE;
                if (end != NONE) {
                    int next = fleet.serveAt(parcel, fleet.places[chosen[prior]], end);
                    begin = begin == NONE || next != NONE && next < begin ? next : begin;
                }
            }
            return begin == NONE ? NONE : begin + fleet.service[parcel];
        }

        /** Behind drive(): the cost of the exact round of a set; NONE if none is kept. */
        int costOfSet(int van, int set) {
            if (set == 0) {
                return 0;
            }
            int back = NONE;
            int size = 0;
            for (int last = 0; last < count; last++) {
                if (has(set, last)) {
                    size += fleet.sizes[chosen[last]];
                    int end = ends[set * MOST_PARCELS + last];
                    int home = homeFrom(last);
                    if (end != NONE && home != NONE && (back == NONE || end + home < back)) {
                        back = end + home;
                    }
                }
            }
            boolean isKept = back != NONE && back <= fleet.backs[van] && size <= fleet.rooms[van];
            return isKept ? back - fleet.begins[van] : NONE;
        }

        /** The set of the chosen parcels of some senders. */
        int setOf(int senders) {
            int set = 0;
            for (int one = 0; one < count; one++) {
                if (has(senders, fleet.senders[chosen[one]])) {
                    set |= 1 << one;
                }
            }
            return set;
        }

        private int homeFrom(int last) {
            return fleet.streets.minutesOf(fleet.places[chosen[last]], DEPOT);
        }

        /** Writes the least of all kept rows of the chosen parcels, or leaves the row if there is none. */
        void writeLeast(int van, int[] row) {
            drive(van);
            int cost = costOfSet(van, all());
            if (cost == NONE) {
                return;
            }
            fillLatest(fleet.begins[van] + cost);
            int left = all();
            int place = DEPOT;
            int minute = fleet.begins[van];
            for (int i = 0; i < count; i++) {
                int next = firstThatGoes(left, place, minute);
                if (next == NONE) {
                    return;
                }
                int parcel = chosen[next];
                row[i] = parcel;
                minute = fleet.serveAt(parcel, place, minute) + fleet.service[parcel];
                place = fleet.places[parcel];
                left ^= 1 << next;
            }
        }

        private void fillLatest(int back) {
            for (int set = 0; set < all(); set++) {
                for (int at = 0; at < count; at++) {
                    if (!has(set, at)) {
                        latest[set * MOST_PARCELS + at] = latestToCome(set, at, back);
                    }
                }
            }
        }

        private int latestToCome(int set, int at, int back) {
            int parcel = chosen[at];
            int leave = set == 0 && homeFrom(at) != NONE ? back - homeFrom(at) : NONE;
            for (int next = 0; next < count; next++) {
                int come = has(set, next) ? latest[(set ^ 1 << next) * MOST_PARCELS + next] : NONE;
                int drive = fleet.streets.minutesOf(fleet.places[parcel], fleet.places[chosen[next]]);
                if (come != NONE && drive != NONE) {
                    leave = Math.max(leave, come - drive);
                }
            }
            int begin = Math.min(leave - fleet.service[parcel], fleet.closes[parcel]);
            return begin < fleet.opens[parcel] ? NONE : begin;
        }

        private int firstThatGoes(int left, int place, int minute) {
            for (int next = 0; next < count; next++) {
                if (has(left, next)) {
                    int drive = fleet.streets.minutesOf(place, fleet.places[chosen[next]]);
                    int come = latest[(left ^ 1 << next) * MOST_PARCELS + next];
                    if (drive != NONE && minute + drive <= come) {
                        return next;
                    }
                }
            }
            return NONE;
        }
    }

    /** The least tree of the doors of a round, and the pairing of its odd doors. */
    private static final class Tree {
        private static final int MOST_DOORS = MOST_PARCELS + 1;
        private final Streets streets;
        private final int[] doors = new int[MOST_DOORS];
        private int count;
        private final int[] groups = new int[MOST_DOORS];
        private final int[] pairs = new int[MOST_DOORS];
        private final int[] odd = new int[MOST_DOORS];
        private final int[] least = new int[1 << MOST_DOORS];

        Tree(Streets streets) {
            this.streets = streets;
        }

        /** Makes the tree of a row of parcels and the depot; returns the sum of its weights. */
        int grow(Fleet fleet, int[] row, int length) {
            gatherDoors(fleet, row, length);
            for (int door = 0; door < count; door++) {
                groups[door] = door;
                pairs[door] = 0;
            }
            int sum = 0;
            for (int step = 1; step < count; step++) {
                sum += joinLeast();
            }
            return sum;
        }

        /** The doors stand by rising places. */
        private void gatherDoors(Fleet fleet, int[] row, int length) {
            doors[0] = DEPOT;
            count = 1;
            for (int place = DEPOT + 1; place < PLACES; place++) {
                boolean isDoor = false;
                for (int i = 0; i < length; i++) {
                    isDoor = isDoor || fleet.places[row[i]] == place;
                }
                if (isDoor && count < MOST_DOORS) {
                    doors[count] = place;
                    count++;
                }
            }
        }

        private int weightOf(int first, int second) {
            int there = streets.minutesOf(doors[first], doors[second]);
            int back = streets.minutesOf(doors[second], doors[first]);
            if (there == NONE || back == NONE) {
                return there == back ? FAR : Math.max(there, back);
            }
            return Math.min(there, back);
        }

        private int joinLeast() {
            int weight = FAR;
            int from = NONE;
            int to = NONE;
            for (int first = 0; first < count; first++) {
                for (int second = first + 1; second < count; second++) {
                    if (groups[first] != groups[second] && weightOf(first, second) < weight) {
                        weight = weightOf(first, second);
                        from = first;
                        to = second;
                    }
                }
            }
            if (from == NONE) {
                return 0;
            }
            pairs[from]++;
            pairs[to]++;
            merge(groups[from], groups[to]);
            return weight;
        }

        private void merge(int group, int other) {
            for (int door = 0; door < count; door++) {
                if (groups[door] == other) {
                    groups[door] = group;
                }
            }
        }

        /** Behind grow(): the least sum of weights that pairs all odd doors, found set by set. */
        int leastPairing() {
            int odds = 0;
            for (int door = 0; door < count; door++) {
                if (pairs[door] % 2 == 1) {
                    odd[odds] = door;
                    odds++;
                }
            }
            least[0] = 0;
            int all = (1 << odds) - 1;
            for (int set = 1; set <= all; set++) {
                least[set] = Integer.bitCount(set) % 2 == 0 ? leastOfSet(set, odds) : FAR;
            }
            return least[all];
        }

        private int leastOfSet(int set, int odds) {
            int first = 0;
            while (first < odds - 1 && (set >> first & 1) == 0) {
                first++;
            }
            int sum = FAR;
            for (int second = first + 1; second < odds; second++) {
                if ((set >> second & 1) == 1) {
                    int left = set ^ 1 << first ^ 1 << second;
                    sum = Math.min(sum, least[left] + weightOf(odd[first], odd[second]));
                }
            }
            return sum;
        }

        boolean isSameBothWays() {
            for (int first = 0; first < count; first++) {
                for (int second = first + 1; second < count; second++) {
                    int there = streets.minutesOf(doors[first], doors[second]);
                    if (there == NONE || there != streets.minutesOf(doors[second], doors[first])) {
                        return false;
                    }
                }
            }
            return true;
        }

        /** The sum of the tree once more, grown door by door from the depot. */
        int sumFromDepot() {
            int reached = 1;
            int sum = 0;
            for (int step = 1; step < count; step++) {
                int next = NONE;
                int weight = FAR;
                for (int door = 1; door < count; door++) {
                    int lesser = (reached >> door & 1) == 1 ? FAR : leastTo(door, reached);
                    if (lesser < weight) {
                        weight = lesser;
                        next = door;
                    }
                }
                if (next != NONE) {
                    reached |= 1 << next;
                    sum += weight;
                }
            }
            return sum;
        }

        private int leastTo(int door, int reached) {
            int weight = FAR;
            for (int from = 0; from < count; from++) {
                if ((reached >> from & 1) == 1) {
                    weight = Math.min(weight, weightOf(from, door));
                }
            }
            return weight;
        }
    }

    /** The rules of rest, and what the driver's row comes to, piece by piece. */
    private static final class Hours {
        private int drive = 270;
        private int rest = 45;
        private int all = 540;
        int count;
        private int total;
        private int driven;
        private int sinceRest;
        private int resting;
        private int broken = NONE;

        int begin(int newDrive, int newRest, int newAll) {
            int before = count;
            drive = newDrive;
            rest = newRest;
            all = newAll;
            count = 0;
            total = 0;
            driven = 0;
            sinceRest = 0;
            resting = 0;
            broken = NONE;
            return before;
        }

        int add(int kind, int minutes) {
            resting = kind == REST ? resting + minutes : 0;
            if (resting >= rest) {
                sinceRest = 0;
            }
            if (kind == DRIVE) {
                driven += minutes;
                sinceRest += minutes;
            }
            if (broken == NONE && (sinceRest > drive || driven > all)) {
                broken = count;
            }
            count++;
            total += minutes;
            return total;
        }

        int firstBroken() {
            return broken;
        }

        int leftInAll() {
            return broken == NONE ? all - driven : 0;
        }

        int leftWithoutRest() {
            return broken == NONE ? Math.min(drive - sinceRest, all - driven) : 0;
        }

        /** Either what may be driven now is driven first, or the rest that the row ends with is ended first. */
        int timeFor(int minutes) {
            if (broken != NONE || minutes > all - driven) {
                return NONE;
            }
            int now = drive - sinceRest;
            if (minutes <= now) {
                return minutes;
            }
            int time = minutes + rest * stretches(minutes - now);
            int lack = Math.max(rest - resting, 0);
            return Math.min(time, minutes + lack + rest * (stretches(minutes) - 1));
        }

        private int stretches(int minutes) {
            return drive > 0 ? (minutes + drive - 1) / drive : 0;
        }

        int wrongTimes() {
            if (broken != NONE) {
                return 0;
            }
            int most = leftInAll();
            int wrong = timeFor(most) == NONE ? 1 : 0;
            return most < MOST_TO_DRIVE && timeFor(most + 1) != NONE ? wrong + 1 : wrong;
        }
    }

    /** The lockers, and the zones of the places. */
    private static final class Doors {
        private final Fleet fleet;
        final int[] slots = new int[PLACES];
        private final int[] used = new int[PLACES];
        private int count;
        final int[] zones = new int[PLACES];
        private final int[] loads = new int[ZONES];

        Doors(Fleet fleet) {
            this.fleet = fleet;
            zones[DEPOT] = NONE;
        }

        int addLocker(int place, int itsSlots) {
            slots[place] = itsSlots;
            count++;
            return count;
        }

        /** Into the nearest locker with a free slot, or back to the depot. */
        void sendAway(int parcel) {
            int place = nearestFree(fleet.places[parcel]);
            fleet.lockers[parcel] = place;
            fleet.states[parcel] = place == NONE ? BACK : IN_LOCKER;
            if (place != NONE) {
                used[place]++;
            }
        }

        private int nearestFree(int from) {
            int nearest = NONE;
            int least = FAR;
            for (int place = 0; place < PLACES; place++) {
                int way = fleet.streets.minutesOf(from, place);
                if (used[place] < slots[place] && way != NONE && way < least) {
                    nearest = place;
                    least = way;
                }
            }
            return nearest;
        }

        int loadAt(int place) {
            int load = 0;
            for (int parcel = 0; parcel < fleet.parcels; parcel++) {
                if (fleet.places[parcel] == place && fleet.states[parcel] == WAITING) {
                    load += fleet.sizes[parcel];
                }
            }
            return load;
        }

        int loadOf(int zone) {
            int load = 0;
            for (int place = DEPOT + 1; place < PLACES; place++) {
                if (zones[place] == zone) {
                    load += loadAt(place);
                }
            }
            return load;
        }

        /** Lets one place go over from the zone with the greatest load to that with the least, if that helps. */
        boolean balanceOnce() {
            int full = 0;
            int bare = 0;
            for (int zone = 0; zone < ZONES; zone++) {
                loads[zone] = loadOf(zone);
                full = loads[zone] > loads[full] ? zone : full;
                bare = loads[zone] <= loads[bare] ? zone : bare;
            }
            int goes = NONE;
            int least = spread();
            for (int place = DEPOT + 1; place < PLACES; place++) {
                int load = zones[place] == full ? loadAt(place) : 0;
                if (load > 0 && touches(place, bare)) {
                    int then = spreadBehind(full, bare, load);
                    goes = then < least ? place : goes;
                    least = Math.min(then, least);
                }
            }
            if (goes != NONE) {
                zones[goes] = bare;
            }
            return goes != NONE;
        }

        private int spread() {
            int most = Math.max(loads[0], Math.max(loads[1], loads[2]));
            return most - Math.min(loads[0], Math.min(loads[1], loads[2]));
        }

        private int spreadBehind(int full, int bare, int load) {
            loads[full] -= load;
            loads[bare] += load;
            int then = spread();
            loads[full] += load;
            loads[bare] -= load;
            return then;
        }

        private boolean touches(int place, int zone) {
            for (int other = DEPOT + 1; other < PLACES; other++) {
                if (zones[other] == zone && fleet.streets.hasStreet(place, other)) {
                    return true;
                }
            }
            return false;
        }
    }

    /** What senders cost together, and what share each of them bears. */
    private static final class Shares {
        private final Fleet fleet;
        private final ExactRound best;
        private final int[] costs = new int[SENDER_SETS];

        Shares(Fleet fleet, ExactRound best) {
            this.fleet = fleet;
            this.best = best;
        }

        int costOfSet(int senders) {
            chooseWaiting(senders);
            best.drive(0);
            return best.costOfSet(0, best.all());
        }

        private void chooseWaiting(int senders) {
            best.chooseNone();
            for (int parcel = 0; parcel < fleet.parcels; parcel++) {
                if (fleet.states[parcel] == WAITING && isIn(senders, fleet.senders[parcel])) {
                    best.choose(parcel);
                }
            }
        }

        private static boolean isIn(int senders, int sender) {
            return (senders >> sender & 1) == 1;
        }

        /** Finds what each set of senders costs; tells whether all of them have a kept round. */
        boolean reckon() {
            chooseWaiting(ALL_SENDERS);
            best.drive(0);
            boolean areAllThere = true;
            for (int senders = 0; senders < SENDER_SETS; senders++) {
                costs[senders] = best.costOfSet(0, best.setOf(senders));
                areAllThere = areAllThere && costs[senders] != NONE;
            }
            return areAllThere;
        }

        /** Behind reckon(): two of the six orders have one set of none or both ahead, one each set of one. */
        int sixfold(int sender) {
            int sum = 0;
            for (int ahead = 0; ahead < SENDER_SETS; ahead++) {
                if (!isIn(ahead, sender)) {
                    int orders = Integer.bitCount(ahead) == 1 ? 1 : 2;
                    sum += orders * (costs[ahead | 1 << sender] - costs[ahead]);
                }
            }
            return sum;
        }

        private int sixfoldOfSet(int senders) {
            int sum = 0;
            for (int sender = 0; sender < SENDERS; sender++) {
                sum += isIn(senders, sender) ? sixfold(sender) : 0;
            }
            return sum;
        }

        int blockingSets() {
            int sets = 0;
            for (int senders = 1; senders < SENDER_SETS; senders++) {
                if (sixfoldOfSet(senders) > 6 * costs[senders]) {
                    sets |= 1 << senders;
                }
            }
            return sets;
        }

        boolean sumUp() {
            return sixfoldOfSet(ALL_SENDERS) == 6 * costs[ALL_SENDERS];
        }
    }

    /** What is paid for, the rates, and the books. */
    private static final class Ledger {
        int parcelRate = 100;
        int meterRate = 50;
        int delivered;
        final long[] payments = new long[MOST_PAYMENTS];
        int count;
        long sum;

        long enter(int meters, int tip) {
            long cents = (long) delivered * parcelRate + ((long) meters * meterRate + 500) / 1000 + tip;
            delivered = 0;
            payments[count] = cents;
            count++;
            sum += cents;
            return cents;
        }

        int wrongSums() {
            long all = 0;
            for (int i = 0; i < count; i++) {
                all += payments[i];
            }
            return all == sum ? 0 : 1;
        }
    }
}
