import java.util.Arrays;
import java.util.NoSuchElementException;

/** A tram line: its trips, vehicles, depots and blocks, the run of a day, relinking, texts of trips, and undo. */
public final class TramLines {

    /** Stands for no trip, no vehicle, no block and no minute. */
    private static final int NONE = -1;

    private static final int STOPS = 12;
    private static final int SECTIONS = 11;
    private static final int DIRECTIONS = 2;
    private static final int DEPOTS = 2;
    private static final int MOST_TRIPS = 30;
    private static final int MOST_VEHICLES = 10;
    private static final int MOST_BLOCKS = 6;
    private static final int MOST_UNDONE = 8;

    private static final int MOST_MINUTES = 9;
    private static final int MOST_DETOUR = 30;
    private static final int LAST_DEPARTURE = 1439;
    private static final int LAST_BLOCKED = 2000;
    private static final int MOST_PRICE = 1000;

    private static final int SETTINGS = 3;
    private static final int TURN_TIME = 0;
    private static final int LEAST_HEADWAY = 1;
    private static final int GAP = 2;
    private static final int[] LEAST_VALUES = {0, 1, 0};
    private static final int[] GREATEST_VALUES = {20, 30, 10};
    private static final int[] FIRST_VALUES = {2, 4, 1};

    /** The run can be asked for the numbers from 0 to this. */
    private static final int LAST_OF_RUN = 6;

    private final Line line = new Line();
    /** A copy of the line on which a change is tried out before it is known whether it is allowed. */
    private final Line draft = new Line();
    private final History history = new History();
    private final Day day = new Day();
    private final Planner planner = new Planner();
    private final Pairing pairing = new Pairing();
    private final Sequence sequence = new Sequence();
    private final TripText text = new TripText();
    private int lastReason = NONE;

    public TramLines() {
    }

    // Line and trips.

    public int setSection(int section, int minutes, int detour)
            throws IndexOutOfBoundsException, IllegalArgumentException, IllegalStateException {
        requireIndex(section, SECTIONS);
        if (!isFromTo(minutes, 1, MOST_MINUTES) || !isFromTo(detour, 0, MOST_DETOUR)) {
            throw new IllegalArgumentException("a time is out of range");
        }
        int previous = 10 * line.track.minutes[section] + line.track.detours[section];
        draft.copyFrom(line);
        draft.track.minutes[section] = minutes;
        draft.track.detours[section] = detour;
        if (!draft.areDutiesSound()) {
            throw new IllegalStateException("a duty would not be sound");
        }
        adoptDraft();
        return previous;
    }

    public boolean setTurn(int stop, boolean allowed) throws IndexOutOfBoundsException, IllegalStateException {
        if (!isFromTo(stop, 1, STOPS - 2)) {
            throw new IndexOutOfBoundsException("no stop between the ends of the line");
        }
        if (!allowed && line.trips.isEndOfActive(stop)) {
            throw new IllegalStateException("an active trip begins or ends there");
        }
        boolean previous = line.track.turnable[stop];
        history.keep(line);
        line.track.turnable[stop] = allowed;
        return previous;
    }

    public int set(int setting, int value)
            throws IndexOutOfBoundsException, IllegalArgumentException, IllegalStateException {
        requireIndex(setting, SETTINGS);
        if (!isFromTo(value, LEAST_VALUES[setting], GREATEST_VALUES[setting])) {
            throw new IllegalArgumentException("the value is out of range");
        }
        int previous = line.track.settings[setting];
        draft.copyFrom(line);
        draft.track.settings[setting] = value;
        if (!draft.areDutiesSound()) {
            throw new IllegalStateException("a duty would not be sound");
        }
        adoptDraft();
        return previous;
    }

    public int addTrip(int first, int last, int departure)
            throws IndexOutOfBoundsException, IllegalArgumentException, IllegalStateException {
        requireIndex(first, STOPS);
        requireIndex(last, STOPS);
        if (!line.isTripAllowed(first, last, departure)) {
            throw new IllegalArgumentException("such a trip is not allowed");
        }
        if (line.trips.count >= MOST_TRIPS) {
            throw new IllegalStateException("the trips are full");
        }
        history.keep(line);
        return line.trips.addActive(first, last, departure);
    }

    public boolean cancel(int trip, boolean cancelled) throws IndexOutOfBoundsException, IllegalStateException {
        requireIndex(trip, line.trips.count);
        if (!cancelled && !line.canTurnAtEnds(trip)) {
            throw new IllegalStateException("trips cannot turn at one of its stops");
        }
        boolean previous = line.trips.cancelled[trip];
        history.keep(line);
        line.trips.cancelled[trip] = cancelled;
        if (cancelled) {
            line.fleet.takeOutFrom(trip);
        }
        return previous;
    }

    public int trip(int trip, int what) throws IndexOutOfBoundsException, IllegalArgumentException {
        requireIndex(trip, line.trips.count);
        switch (what) {
            case 0:
                return line.trips.first[trip];
            case 1:
                return line.trips.last[trip];
            case 2:
                return line.trips.departure[trip];
            case 3:
                return line.arrivalOf(trip);
            case 4:
                return line.trips.directionOf(trip);
            case 5:
                return line.trips.cancelled[trip] ? 1 : 0;
            case 6:
                return line.fleet.vehicleOf(trip);
            default:
                throw new IllegalArgumentException("a trip has no such number");
        }
    }

    public int planned(int trip, int stop) throws IndexOutOfBoundsException, NoSuchElementException {
        requireIndex(trip, line.trips.count);
        if (!line.trips.isOnWay(trip, stop)) {
            throw new NoSuchElementException("the stop is not on its way");
        }
        return line.timeAt(trip, stop);
    }

    public int count(int what) throws IllegalArgumentException {
        switch (what) {
            case 0:
                return line.trips.count;
            case 1:
                return line.trips.activeCount();
            case 2:
                return line.fleet.tripsInDuties();
            case 3:
                return line.fleet.count;
            case 4:
                return line.fleet.vehiclesWithDuty();
            case 5:
                return line.blocks.count;
            case 6:
                return line.track.turnableCount();
            default:
                throw new IllegalArgumentException("no such number");
        }
    }

    // Headways.

    public int passage(int direction, int stop, int index, boolean isTrip)
            throws IndexOutOfBoundsException, NoSuchElementException {
        requireIndex(direction, DIRECTIONS);
        requireIndex(stop, STOPS);
        line.listPassages(direction, stop, sequence);
        if (index < 0 || index >= sequence.size) {
            throw new NoSuchElementException("no such passage");
        }
        return isTrip ? sequence.numbers[index] : sequence.minutes[index];
    }

    public int bunches(int direction, int stop) throws IndexOutOfBoundsException {
        requireIndex(direction, DIRECTIONS);
        requireIndex(stop, STOPS);
        line.listPassages(direction, stop, sequence);
        return sequence.headwaysBelow(line.track.settings[LEAST_HEADWAY]);
    }

    public int headway(int direction, int stop, boolean greatest)
            throws IndexOutOfBoundsException, NoSuchElementException {
        requireIndex(direction, DIRECTIONS);
        requireIndex(stop, STOPS);
        line.listPassages(direction, stop, sequence);
        if (sequence.size < 2) {
            throw new NoSuchElementException("no headway");
        }
        return greatest ? sequence.greatestHeadway() : sequence.leastHeadway();
    }

    public double meanHeadway(int direction, int stop) throws IndexOutOfBoundsException, ArithmeticException {
        requireIndex(direction, DIRECTIONS);
        requireIndex(stop, STOPS);
        line.listPassages(direction, stop, sequence);
        int headways = sequence.size - 1;
        if (headways < 1) {
            throw new ArithmeticException("no headway");
        }
        return (double) sequence.span() / (double) headways;
    }

    // Vehicles and duties.

    public int addVehicle(int depot) throws IndexOutOfBoundsException, IllegalStateException {
        requireIndex(depot, DEPOTS);
        if (line.fleet.count >= MOST_VEHICLES) {
            throw new IllegalStateException("the vehicles are full");
        }
        history.keep(line);
        return line.fleet.addTo(depot);
    }

    public int give(int trip, int vehicle) throws IndexOutOfBoundsException, UnsupportedOperationException {
        requireIndex(trip, line.trips.count);
        requireIndex(vehicle, line.fleet.count);
        int reason = line.reasonAgainst(trip, vehicle);
        if (reason != 0) {
            lastReason = reason;
            throw new UnsupportedOperationException("the trip is refused");
        }
        history.keep(line);
        int position = line.positionFor(trip, vehicle);
        line.fleet.insert(vehicle, position, trip);
        return position;
    }

    public int giveRound(int first, int second, int vehicle)
            throws IndexOutOfBoundsException, UnsupportedOperationException {
        requireIndex(first, line.trips.count);
        requireIndex(second, line.trips.count);
        requireIndex(vehicle, line.fleet.count);
        int reason = line.reasonAgainstRound(first, second, vehicle);
        if (reason != 0) {
            lastReason = reason;
            throw new UnsupportedOperationException("the round is refused");
        }
        history.keep(line);
        int position = line.positionFor(first, vehicle);
        line.fleet.insert(vehicle, position, first);
        line.fleet.insert(vehicle, position + 1, second);
        return position;
    }

    public int refusal() throws NoSuchElementException {
        if (lastReason == NONE) {
            throw new NoSuchElementException("none was refused");
        }
        return lastReason;
    }

    public int wouldRefuse(int trip, int vehicle) throws IndexOutOfBoundsException {
        requireIndex(trip, line.trips.count);
        requireIndex(vehicle, line.fleet.count);
        return line.reasonAgainst(trip, vehicle);
    }

    public int take(int vehicle) throws IndexOutOfBoundsException, NoSuchElementException {
        requireIndex(vehicle, line.fleet.count);
        int trip = line.fleet.lastTripOf(vehicle);
        if (trip == NONE) {
            throw new NoSuchElementException("the vehicle has no duty");
        }
        history.keep(line);
        line.fleet.takeOutFrom(trip);
        return trip;
    }

    public int exchange(int one, int other, int minute)
            throws IndexOutOfBoundsException, IllegalArgumentException, IllegalStateException {
        requireIndex(one, line.fleet.count);
        requireIndex(other, line.fleet.count);
        if (one == other) {
            throw new IllegalArgumentException("both vehicles are the same");
        }
        int stayingOfOne = line.tripsBefore(minute, one);
        int stayingOfOther = line.tripsBefore(minute, other);
        draft.copyFrom(line);
        draft.fleet.join(one, stayingOfOne, line.fleet, other, stayingOfOther);
        draft.fleet.join(other, stayingOfOther, line.fleet, one, stayingOfOne);
        if (!draft.areDutiesSound()) {
            throw new IllegalStateException("a duty would not be sound");
        }
        int moved = line.fleet.length[one] - stayingOfOne + line.fleet.length[other] - stayingOfOther;
        adoptDraft();
        return moved;
    }

    public int duty(int vehicle, int position) throws IndexOutOfBoundsException, NoSuchElementException {
        requireIndex(vehicle, line.fleet.count);
        if (position < 0 || position >= line.fleet.length[vehicle]) {
            throw new NoSuchElementException("no such position");
        }
        return line.fleet.duties[vehicle][position];
    }

    public int vehicle(int vehicle, int what) throws IndexOutOfBoundsException, IllegalArgumentException {
        requireIndex(vehicle, line.fleet.count);
        switch (what) {
            case 0:
                return line.fleet.home[vehicle];
            case 1:
                return line.fleet.length[vehicle];
            case 2:
                return line.minutesOfTrips(vehicle);
            case 3:
                return line.minutesBetweenTrips(vehicle);
            case 4:
                return line.fleet.placeOf(vehicle);
            case 5:
                return line.isBoxedIn(vehicle) ? 1 : 0;
            case 6:
                return line.endStopOf(vehicle);
            default:
                throw new IllegalArgumentException("a vehicle has no such number");
        }
    }

    public int leaving(int depot, int index) throws IndexOutOfBoundsException, NoSuchElementException {
        requireIndex(depot, DEPOTS);
        line.listLeaving(depot, sequence);
        if (index < 0 || index >= sequence.size) {
            throw new NoSuchElementException("no such index");
        }
        return sequence.numbers[index];
    }

    // Blocks and the run.

    public int block(int section, int first, int last)
            throws IndexOutOfBoundsException, IllegalArgumentException, IllegalStateException {
        requireIndex(section, SECTIONS);
        if (!isFromTo(first, 0, LAST_BLOCKED) || !isFromTo(last, first, LAST_BLOCKED)) {
            throw new IllegalArgumentException("a minute is out of range");
        }
        if (line.blocks.count >= MOST_BLOCKS) {
            throw new IllegalStateException("the blocks are full");
        }
        history.keep(line);
        return line.blocks.addBlock(section, first, last);
    }

    public int unblock(int block) throws IndexOutOfBoundsException {
        requireIndex(block, line.blocks.count);
        history.keep(line);
        line.blocks.removeBlock(block);
        return line.blocks.count;
    }

    public int actual(int trip, int stop, boolean isDeparture)
            throws IndexOutOfBoundsException, NoSuchElementException {
        requireIndex(trip, line.trips.count);
        if (!line.trips.isOnWay(trip, stop)) {
            throw new NoSuchElementException("the stop is not on its way");
        }
        day.pass(line);
        int minute = isDeparture ? day.departures[trip][stop] : day.arrivals[trip][stop];
        if (minute == NONE) {
            throw new NoSuchElementException("there is no such time in the run");
        }
        return minute;
    }

    public int delay(int trip) throws IndexOutOfBoundsException, NoSuchElementException {
        requireIndex(trip, line.trips.count);
        day.pass(line);
        if (!day.hasArrived(trip)) {
            throw new NoSuchElementException("the trip does not arrive");
        }
        return day.delayOf(trip);
    }

    public int run(int what) throws IllegalArgumentException {
        if (!isFromTo(what, 0, LAST_OF_RUN)) {
            throw new IllegalArgumentException("the run has no such number");
        }
        day.pass(line);
        switch (what) {
            case 0:
                return day.arrivedCount();
            case 1:
                return line.fleet.tripsInDuties() - day.arrivedCount();
            case 2:
                return day.delaySum();
            case 3:
                return day.greatestDelay();
            case 4:
                return day.detours;
            case 5:
                return day.gapMinutes;
            default:
                return day.blockMinutes;
        }
    }

    public int actualBunches(int direction, int stop) throws IndexOutOfBoundsException {
        requireIndex(direction, DIRECTIONS);
        requireIndex(stop, STOPS);
        day.pass(line);
        day.listDepartures(direction, stop, sequence);
        return sequence.headwaysBelow(line.track.settings[LEAST_HEADWAY]);
    }

    public double meanDelay() throws ArithmeticException {
        day.pass(line);
        int arrived = day.arrivedCount();
        if (arrived == 0) {
            throw new ArithmeticException("no trip arrives");
        }
        return (double) day.delaySum() / (double) arrived;
    }

    // Short turns and relinking.

    public int turnShort(int trip, int stop) throws IndexOutOfBoundsException, IllegalArgumentException {
        requireIndex(trip, line.trips.count);
        if (!line.trips.isBetweenEnds(trip, stop) || !line.track.turnable[stop]) {
            throw new IllegalArgumentException("the trip cannot be turned there");
        }
        int shorter = line.arrivalOf(trip) - line.timeAt(trip, stop);
        history.keep(line);
        line.trips.last[trip] = stop;
        line.fleet.takeOutBehind(trip);
        return shorter;
    }

    public int startLate(int trip, int stop) throws IndexOutOfBoundsException, IllegalArgumentException {
        requireIndex(trip, line.trips.count);
        if (!line.trips.isBetweenEnds(trip, stop) || !line.track.turnable[stop]) {
            throw new IllegalArgumentException("the trip cannot be started there");
        }
        int departure = line.timeAt(trip, stop);
        if (departure > LAST_DEPARTURE) {
            throw new IllegalArgumentException("the departure would be too late");
        }
        int shorter = departure - line.trips.departure[trip];
        history.keep(line);
        line.trips.first[trip] = stop;
        line.trips.departure[trip] = departure;
        line.fleet.takeOutFrom(trip);
        return shorter;
    }

    public int leastVehicles(boolean isByWaiting) {
        if (isByWaiting) {
            return planner.vehiclesByWaiting(line);
        }
        return line.trips.activeCount() - pairing.mostPairs(line);
    }

    public int leastCost(int price) throws IllegalArgumentException {
        if (!isFromTo(price, 0, MOST_PRICE)) {
            throw new IllegalArgumentException("the price is out of range");
        }
        return pairing.leastCostAt(price, line);
    }

    public int nextTrip(int trip) throws IndexOutOfBoundsException, NoSuchElementException {
        requireIndex(trip, line.trips.count);
        int next = line.soonestBehind(trip);
        if (next == NONE) {
            throw new NoSuchElementException("no trip can follow");
        }
        return next;
    }

    public int relink() {
        history.keep(line);
        return planner.linkAnew(line);
    }

    // Texts, undo and snapshot.

    public void append(char c) throws IllegalStateException {
        if (text.isFull()) {
            throw new IllegalStateException("the text buffer is full");
        }
        text.add(c);
    }

    public int readTrips() throws IllegalArgumentException, IllegalStateException {
        text.parse();
        if (text.fault != NONE) {
            throw new IllegalArgumentException("the text has a fault");
        }
        if (!text.canBeAddedTo(line)) {
            throw new IllegalStateException("a trip of the text cannot be added");
        }
        history.keep(line);
        text.addTo(line);
        return text.count;
    }

    public int faultPosition() {
        return text.fault;
    }

    public int undo() throws IllegalStateException {
        if (history.size == 0) {
            throw new IllegalStateException("no change is kept");
        }
        history.takeBack(line);
        return history.size;
    }

    public void save() {
        history.saveCopy(line);
    }

    public void restore() throws IllegalStateException {
        if (!history.isSaved) {
            throw new IllegalStateException("there is no snapshot");
        }
        history.bringBack(line);
    }

    private void adoptDraft() {
        history.keep(line);
        line.copyFrom(draft);
    }

    private static void requireIndex(int index, int bound) throws IndexOutOfBoundsException {
        if (index < 0 || index >= bound) {
            throw new IndexOutOfBoundsException("there is nothing of this number");
        }
    }

    private static boolean isFromTo(int value, int from, int to) {
        return from <= value && value <= to;
    }

    /** The sections, the stops at which trips can turn, and the settings. */
    private static final class Track {
        final int[] minutes = new int[SECTIONS];
        final int[] detours = new int[SECTIONS];
        final boolean[] turnable = new boolean[STOPS];
        final int[] settings = new int[SETTINGS];

        Track() {
            Arrays.fill(minutes, 3);
            turnable[0] = true;
            turnable[STOPS - 1] = true;
            System.arraycopy(FIRST_VALUES, 0, settings, 0, SETTINGS);
        }

        void copyFrom(Track other) {
            System.arraycopy(other.minutes, 0, minutes, 0, SECTIONS);
            System.arraycopy(other.detours, 0, detours, 0, SECTIONS);
            System.arraycopy(other.settings, 0, settings, 0, SETTINGS);
            for (int stop = 0; stop < STOPS; stop++) {
                turnable[stop] = other.turnable[stop];
            }
        }

        int minutesFromTo(int one, int other) {
            int from = one < other ? one : other;
            int to = one < other ? other : one;
            int sum = 0;
            for (int section = from; section < to; section++) {
                sum += minutes[section];
            }
            return sum;
        }

        int turnableCount() {
            int count = 0;
            for (int stop = 0; stop < STOPS; stop++) {
                if (turnable[stop]) {
                    count++;
                }
            }
            return count;
        }
    }

    /** The trips, as far as they can be told without the times of the sections. */
    private static final class Timetable {
        final int[] first = new int[MOST_TRIPS];
        final int[] last = new int[MOST_TRIPS];
        final int[] departure = new int[MOST_TRIPS];
        final boolean[] cancelled = new boolean[MOST_TRIPS];
        int count;

        void copyFrom(Timetable other) {
            System.arraycopy(other.first, 0, first, 0, MOST_TRIPS);
            System.arraycopy(other.last, 0, last, 0, MOST_TRIPS);
            System.arraycopy(other.departure, 0, departure, 0, MOST_TRIPS);
            for (int trip = 0; trip < MOST_TRIPS; trip++) {
                cancelled[trip] = other.cancelled[trip];
            }
            count = other.count;
        }

        int addActive(int firstStop, int lastStop, int minute) {
            if (count >= MOST_TRIPS) {
                return NONE;
            }
            first[count] = firstStop;
            last[count] = lastStop;
            departure[count] = minute;
            cancelled[count] = false;
            count++;
            return count - 1;
        }

        int directionOf(int trip) {
            return first[trip] < last[trip] ? 0 : 1;
        }

        boolean isOnWay(int trip, int stop) {
            return isFromTo(stop, Math.min(first[trip], last[trip]), Math.max(first[trip], last[trip]));
        }

        boolean isBetweenEnds(int trip, int stop) {
            return isOnWay(trip, stop) && stop != first[trip] && stop != last[trip];
        }

        boolean isEndOfActive(int stop) {
            for (int trip = 0; trip < count; trip++) {
                if (!cancelled[trip] && (first[trip] == stop || last[trip] == stop)) {
                    return true;
                }
            }
            return false;
        }

        int activeCount() {
            int active = 0;
            for (int trip = 0; trip < count; trip++) {
                if (!cancelled[trip]) {
                    active++;
                }
            }
            return active;
        }

        /** Lists the active trips in the order of their departures, and of their numbers among equal ones. */
        void listActive(Sequence order) {
            order.clear();
            for (int trip = 0; trip < count; trip++) {
                if (!cancelled[trip]) {
                    order.put(departure[trip], trip);
                }
            }
        }
    }

    /**
     * The vehicles with their homes and duties. As the latest vehicle stands in front of its row, the order of a row,
     * the front first, is that of descending numbers.
     */
    private static final class Fleet {
        final int[] home = new int[MOST_VEHICLES];
        final int[] length = new int[MOST_VEHICLES];
        final int[][] duties = new int[MOST_VEHICLES][MOST_TRIPS];
        int count;

        void copyFrom(Fleet other) {
            System.arraycopy(other.home, 0, home, 0, MOST_VEHICLES);
            System.arraycopy(other.length, 0, length, 0, MOST_VEHICLES);
            for (int vehicle = 0; vehicle < MOST_VEHICLES; vehicle++) {
                System.arraycopy(other.duties[vehicle], 0, duties[vehicle], 0, MOST_TRIPS);
            }
            count = other.count;
        }

        int addTo(int depot) {
            if (count >= MOST_VEHICLES) {
                return NONE;
            }
            home[count] = depot;
            length[count] = 0;
            count++;
            return count - 1;
        }

        int homeStopOf(int vehicle) {
            return home[vehicle] == 0 ? 0 : STOPS - 1;
        }

        int placeOf(int vehicle) {
            int place = 0;
            for (int before = vehicle + 1; before < count; before++) {
                if (home[before] == home[vehicle]) {
                    place++;
                }
            }
            return place;
        }

        int tripsInDuties() {
            int trips = 0;
            for (int vehicle = 0; vehicle < count; vehicle++) {
                trips += length[vehicle];
            }
            return trips;
        }

        int vehiclesWithDuty() {
            int vehicles = 0;
            for (int vehicle = 0; vehicle < count; vehicle++) {
                if (length[vehicle] > 0) {
                    vehicles++;
                }
            }
            return vehicles;
        }

        int firstTripOf(int vehicle) {
            return length[vehicle] > 0 ? duties[vehicle][0] : NONE;
        }

        int lastTripOf(int vehicle) {
            return length[vehicle] > 0 ? duties[vehicle][length[vehicle] - 1] : NONE;
        }

        int vehicleOf(int trip) {
            for (int vehicle = 0; vehicle < count; vehicle++) {
                if (positionOf(trip, vehicle) != NONE) {
                    return vehicle;
                }
            }
            return NONE;
        }

        int positionOf(int trip, int vehicle) {
            for (int position = 0; position < length[vehicle]; position++) {
                if (duties[vehicle][position] == trip) {
                    return position;
                }
            }
            return NONE;
        }

        void insert(int vehicle, int position, int trip) {
            if (length[vehicle] >= MOST_TRIPS) {
                return;
            }
            for (int behind = length[vehicle]; behind > position; behind--) {
                duties[vehicle][behind] = duties[vehicle][behind - 1];
            }
            duties[vehicle][position] = trip;
            length[vehicle]++;
        }

        /** Takes a trip and all trips behind it out of its duty, if it is in one. */
        void takeOutFrom(int trip) {
            int vehicle = vehicleOf(trip);
            if (vehicle != NONE) {
                length[vehicle] = positionOf(trip, vehicle);
            }
        }

        /** Takes all trips behind a trip out of its duty, if it is in one. */
        void takeOutBehind(int trip) {
            int vehicle = vehicleOf(trip);
            if (vehicle != NONE) {
                length[vehicle] = positionOf(trip, vehicle) + 1;
            }
        }

        void emptyDuties() {
            Arrays.fill(length, 0);
        }

        /** Puts the end of a duty of another fleet behind the first trips of a duty of this one. */
        void join(int vehicle, int staying, Fleet other, int from, int start) {
            int position = staying;
            for (int moving = start; moving < other.length[from] && position < MOST_TRIPS; moving++) {
                duties[vehicle][position] = other.duties[from][moving];
                position++;
            }
            length[vehicle] = position;
        }
    }

    private static final class Blocks {
        final int[] section = new int[MOST_BLOCKS];
        final int[] first = new int[MOST_BLOCKS];
        final int[] last = new int[MOST_BLOCKS];
        int count;

        void copyFrom(Blocks other) {
            System.arraycopy(other.section, 0, section, 0, MOST_BLOCKS);
            System.arraycopy(other.first, 0, first, 0, MOST_BLOCKS);
            System.arraycopy(other.last, 0, last, 0, MOST_BLOCKS);
            count = other.count;
        }

        int addBlock(int blocked, int from, int to) {
            if (count >= MOST_BLOCKS) {
                return NONE;
            }
            section[count] = blocked;
            first[count] = from;
            last[count] = to;
            count++;
            return count - 1;
        }

        void removeBlock(int block) {
            for (int later = block + 1; later < count; later++) {
                section[later - 1] = section[later];
                first[later - 1] = first[later];
                last[later - 1] = last[later];
            }
            count--;
        }

        /** Returns the lowest block that blocks a section at a minute, or NONE. */
        int lowestAt(int entered, int minute) {
            for (int block = 0; block < count; block++) {
                if (section[block] == entered && isFromTo(minute, first[block], last[block])) {
                    return block;
                }
            }
            return NONE;
        }
    }

    /** All that undo and restore bring back. */
    private static final class Line {
        final Track track = new Track();
        final Timetable trips = new Timetable();
        final Fleet fleet = new Fleet();
        final Blocks blocks = new Blocks();

        void copyFrom(Line other) {
            track.copyFrom(other.track);
            trips.copyFrom(other.trips);
            fleet.copyFrom(other.fleet);
            blocks.copyFrom(other.blocks);
        }

        boolean isTripAllowed(int first, int last, int departure) {
            return first != last && track.turnable[first] && track.turnable[last]
                    && isFromTo(departure, 0, LAST_DEPARTURE);
        }

        boolean canTurnAtEnds(int trip) {
            return track.turnable[trips.first[trip]] && track.turnable[trips.last[trip]];
        }

        int timeAt(int trip, int stop) {
            return trips.departure[trip] + track.minutesFromTo(trips.first[trip], stop);
        }

        int arrivalOf(int trip) {
            return trips.departure[trip] + track.minutesFromTo(trips.first[trip], trips.last[trip]);
        }

        boolean canFollow(int trip, int before) {
            return trips.first[trip] == trips.last[before]
                    && trips.departure[trip] >= arrivalOf(before) + track.settings[TURN_TIME];
        }

        int soonestBehind(int trip) {
            int soonest = NONE;
            for (int next = 0; next < trips.count; next++) {
                if (!trips.cancelled[next] && canFollow(next, trip)
                        && (soonest == NONE || trips.departure[next] < trips.departure[soonest])) {
                    soonest = next;
                }
            }
            return soonest;
        }

        boolean areDutiesSound() {
            for (int vehicle = 0; vehicle < fleet.count; vehicle++) {
                if (!isDutySound(vehicle)) {
                    return false;
                }
            }
            return true;
        }

        boolean isDutySound(int vehicle) {
            int first = fleet.firstTripOf(vehicle);
            if (first != NONE && trips.first[first] != fleet.homeStopOf(vehicle)) {
                return false;
            }
            for (int position = 1; position < fleet.length[vehicle]; position++) {
                if (!canFollow(fleet.duties[vehicle][position], fleet.duties[vehicle][position - 1])) {
                    return false;
                }
            }
            return true;
        }

        /** Returns how many trips of a duty depart before a minute; they are its first ones. */
        int tripsBefore(int minute, int vehicle) {
            int position = 0;
            while (position < fleet.length[vehicle] && trips.departure[fleet.duties[vehicle][position]] < minute) {
                position++;
            }
            return position;
        }

        int positionFor(int trip, int vehicle) {
            return tripsBefore(trips.departure[trip], vehicle);
        }

        /** Returns the reason for which a trip cannot be given to a vehicle, or 0. */
        int reasonAgainst(int trip, int vehicle) {
            if (trips.cancelled[trip]) {
                return 1;
            }
            if (fleet.vehicleOf(trip) != NONE) {
                return 2;
            }
            return reasonInDuty(trip, trip, vehicle);
        }

        /** Returns the reason for which a round cannot be given to a vehicle, or 0. */
        int reasonAgainstRound(int first, int second, int vehicle) {
            if (trips.cancelled[first] || trips.cancelled[second] || first == second) {
                return 1;
            }
            if (fleet.vehicleOf(first) != NONE || fleet.vehicleOf(second) != NONE) {
                return 2;
            }
            if (!canFollow(second, first)) {
                return 7;
            }
            return reasonInDuty(first, second, vehicle);
        }

        /** Asks for the reasons 3 to 6, for trips of which the first and the last one are told. */
        int reasonInDuty(int first, int last, int vehicle) {
            int position = positionFor(first, vehicle);
            int before = position > 0 ? fleet.duties[vehicle][position - 1] : NONE;
            int behind = position < fleet.length[vehicle] ? fleet.duties[vehicle][position] : NONE;
            if (behind != NONE && trips.departure[behind] == trips.departure[first]) {
                return 3;
            }
            if (before != NONE && !canFollow(first, before)) {
                return 4;
            }
            if (behind != NONE && !canFollow(behind, last)) {
                return 5;
            }
            if (before == NONE && trips.first[first] != fleet.homeStopOf(vehicle)) {
                return 6;
            }
            return 0;
        }

        int minutesOfTrips(int vehicle) {
            int sum = 0;
            for (int position = 0; position < fleet.length[vehicle]; position++) {
                int trip = fleet.duties[vehicle][position];
                sum += arrivalOf(trip) - trips.departure[trip];
            }
            return sum;
        }

        int minutesBetweenTrips(int vehicle) {
            int sum = 0;
            for (int position = 1; position < fleet.length[vehicle]; position++) {
                sum += trips.departure[fleet.duties[vehicle][position]]
                        - arrivalOf(fleet.duties[vehicle][position - 1]);
            }
            return sum;
        }

        boolean isBoxedIn(int vehicle) {
            int own = fleet.firstTripOf(vehicle);
            if (own == NONE) {
                return false;
            }
            for (int before = vehicle + 1; before < fleet.count; before++) {
                int first = fleet.firstTripOf(before);
                if (fleet.home[before] == fleet.home[vehicle]
                        && (first == NONE || trips.departure[first] > trips.departure[own])) {
                    return true;
                }
            }
            return false;
        }

        int endStopOf(int vehicle) {
            int last = fleet.lastTripOf(vehicle);
            return last == NONE ? fleet.homeStopOf(vehicle) : trips.last[last];
        }

        void listLeaving(int depot, Sequence leaving) {
            leaving.clear();
            for (int vehicle = fleet.count - 1; vehicle >= 0; vehicle--) {
                int first = fleet.firstTripOf(vehicle);
                if (fleet.home[vehicle] == depot && first != NONE) {
                    leaving.put(trips.departure[first], vehicle);
                }
            }
        }

        void listPassages(int direction, int stop, Sequence passages) {
            passages.clear();
            for (int trip = 0; trip < trips.count; trip++) {
                if (!trips.cancelled[trip] && trips.directionOf(trip) == direction
                        && trips.isOnWay(trip, stop) && stop != trips.last[trip]) {
                    passages.put(timeAt(trip, stop), trip);
                }
            }
        }
    }

    /** Numbers with minutes, in ascending order of the minutes, and among equal ones as they were put in. */
    private static final class Sequence {
        final int[] minutes = new int[MOST_TRIPS];
        final int[] numbers = new int[MOST_TRIPS];
        int size;

        void clear() {
            size = 0;
        }

        void put(int minute, int number) {
            if (size >= MOST_TRIPS) {
                return;
            }
            int index = size;
            for (; index > 0 && minutes[index - 1] > minute; index--) {
                minutes[index] = minutes[index - 1];
                numbers[index] = numbers[index - 1];
            }
            minutes[index] = minute;
            numbers[index] = number;
            size++;
        }

        int headwaysBelow(int least) {
            int below = 0;
            for (int index = 1; index < size; index++) {
                if (minutes[index] - minutes[index - 1] < least) {
                    below++;
                }
            }
            return below;
        }

        int leastHeadway() {
            int least = span();
            for (int index = 1; index < size; index++) {
                least = Math.min(least, minutes[index] - minutes[index - 1]);
            }
            return least;
        }

        int greatestHeadway() {
            int greatest = 0;
            for (int index = 1; index < size; index++) {
                greatest = Math.max(greatest, minutes[index] - minutes[index - 1]);
            }
            return greatest;
        }

        /** Returns the sum of all headways. */
        int span() {
            return size == 0 ? 0 : minutes[size - 1] - minutes[0];
        }
    }

    /** The run of a day. */
    private static final class Day {
        private static final int END = 3000;
        /** Before any minute by more than the greatest gap. */
        private static final int LONG_AGO = -1000;
        /** Above all that a day can need: each look moves a tram on by at least a minute. */
        private static final int MOST_LOOKS = 1000000;

        /** The minutes by trips and stops, NONE where a trip does not get. */
        final int[][] arrivals = new int[MOST_TRIPS][STOPS];
        final int[][] departures = new int[MOST_TRIPS][STOPS];
        int detours;
        int gapMinutes;
        int blockMinutes;

        /** The latest departures by directions and stops. */
        private final int[][] latest = new int[DIRECTIONS][STOPS];
        /** For each vehicle its trip, NONE if it does not go on, the position of the trip, and where it stands. */
        private final int[] trip = new int[MOST_VEHICLES];
        private final int[] position = new int[MOST_VEHICLES];
        private final int[] stop = new int[MOST_VEHICLES];
        /** The minutes at which the vehicles want to depart. */
        private final int[] wanted = new int[MOST_VEHICLES];
        /** The line as it was when the day began. */
        private final Line line = new Line();

        void pass(Line today) {
            line.copyFrom(today);
            begin();
            for (int look = 0; look < MOST_LOOKS; look++) {
                int vehicle = nextVehicle();
                if (vehicle == NONE) {
                    return;
                }
                lookAt(vehicle);
            }
        }

        private void begin() {
            for (int number = 0; number < MOST_TRIPS; number++) {
                Arrays.fill(arrivals[number], NONE);
                Arrays.fill(departures[number], NONE);
            }
            for (int direction = 0; direction < DIRECTIONS; direction++) {
                Arrays.fill(latest[direction], LONG_AGO);
            }
            detours = 0;
            gapMinutes = 0;
            blockMinutes = 0;
            for (int vehicle = 0; vehicle < line.fleet.count; vehicle++) {
                beginTrip(vehicle, 0, 0);
            }
        }

        /** Lets a vehicle want to begin the trip at a position of its duty, not before a minute. */
        private void beginTrip(int vehicle, int place, int ready) {
            position[vehicle] = place;
            if (place >= line.fleet.length[vehicle]) {
                trip[vehicle] = NONE;
                return;
            }
            int begun = line.fleet.duties[vehicle][place];
            trip[vehicle] = begun;
            stop[vehicle] = line.trips.first[begun];
            wanted[vehicle] = Math.max(line.trips.departure[begun], ready);
        }

        private int nextVehicle() {
            int next = NONE;
            for (int vehicle = 0; vehicle < line.fleet.count; vehicle++) {
                if (trip[vehicle] != NONE && (next == NONE || isEarlier(vehicle, next))) {
                    next = vehicle;
                }
            }
            return next;
        }

        private boolean isEarlier(int one, int other) {
            return wanted[one] < wanted[other] || (wanted[one] == wanted[other] && trip[one] < trip[other]);
        }

        private void lookAt(int vehicle) {
            int minute = wanted[vehicle];
            if (minute >= END) {
                trip[vehicle] = NONE;
                return;
            }
            int direction = line.trips.directionOf(trip[vehicle]);
            int free = latest[direction][stop[vehicle]] + line.track.settings[GAP];
            if (minute < free) {
                gapMinutes += free - minute;
                wanted[vehicle] = free;
                return;
            }
            int section = direction == 0 ? stop[vehicle] : stop[vehicle] - 1;
            int block = line.blocks.lowestAt(section, minute);
            if (block == NONE) {
                depart(vehicle, direction, line.track.minutes[section]);
            } else if (line.track.detours[section] > 0) {
                detours++;
                depart(vehicle, direction, line.track.detours[section]);
            } else {
                int open = line.blocks.last[block] + 1;
                blockMinutes += open - minute;
                wanted[vehicle] = open;
            }
        }

        /** Lets a vehicle depart when it wants to, and arrive at its next stop. */
        private void depart(int vehicle, int direction, int minutes) {
            int moved = trip[vehicle];
            int minute = wanted[vehicle];
            departures[moved][stop[vehicle]] = minute;
            latest[direction][stop[vehicle]] = minute;
            int arrival = minute + minutes;
            stop[vehicle] += direction == 0 ? 1 : -1;
            wanted[vehicle] = arrival;
            arrivals[moved][stop[vehicle]] = arrival;
            if (stop[vehicle] == line.trips.last[moved]) {
                beginTrip(vehicle, position[vehicle] + 1, arrival + line.track.settings[TURN_TIME]);
            }
        }

        private int actualArrival(int number) {
            return arrivals[number][line.trips.last[number]];
        }

        boolean hasArrived(int number) {
            return actualArrival(number) != NONE;
        }

        int delayOf(int number) {
            return actualArrival(number) - line.arrivalOf(number);
        }

        int arrivedCount() {
            int arrived = 0;
            for (int number = 0; number < line.trips.count; number++) {
                if (hasArrived(number)) {
                    arrived++;
                }
            }
            return arrived;
        }

        int delaySum() {
            int sum = 0;
            for (int number = 0; number < line.trips.count; number++) {
                if (hasArrived(number)) {
                    sum += delayOf(number);
                }
            }
            return sum;
        }

        /** Returns the greatest delay, which is below 0 if all trips come too early, by detours; 0 without one. */
        int greatestDelay() {
            int greatest = 0;
            boolean isFirst = true;
            for (int number = 0; number < line.trips.count; number++) {
                if (hasArrived(number)) {
                    greatest = isFirst ? delayOf(number) : Math.max(greatest, delayOf(number));
                    isFirst = false;
                }
            }
            return greatest;
        }

        void listDepartures(int direction, int from, Sequence sequence) {
            sequence.clear();
            for (int number = 0; number < line.trips.count; number++) {
                if (line.trips.directionOf(number) == direction && departures[number][from] != NONE) {
                    sequence.put(departures[number][from], number);
                }
            }
        }
    }

    /** What goes through the active trips in the order of their departures. */
    private static final class Planner {
        private final Sequence order = new Sequence();
        private final Sequence candidates = new Sequence();
        /** For each tram that is needed, where and since when it waits. */
        private final int[] place = new int[MOST_TRIPS];
        private final int[] since = new int[MOST_TRIPS];
        private int trams;

        int vehiclesByWaiting(Line line) {
            trams = 0;
            line.trips.listActive(order);
            for (int index = 0; index < order.size; index++) {
                int trip = order.numbers[index];
                int latest = line.trips.departure[trip] - line.track.settings[TURN_TIME];
                int tram = longestWaiting(line.trips.first[trip], latest);
                if (tram == NONE) {
                    tram = trams;
                    trams++;
                }
                if (tram < MOST_TRIPS) {
                    place[tram] = line.trips.last[trip];
                    since[tram] = line.arrivalOf(trip);
                }
            }
            return trams;
        }

        /** Returns the tram that came first to a stop, if it came there at a minute or before, or NONE. */
        private int longestWaiting(int stop, int latest) {
            int longest = NONE;
            for (int tram = 0; tram < trams && tram < MOST_TRIPS; tram++) {
                if (place[tram] == stop && since[tram] <= latest
                        && (longest == NONE || since[tram] < since[longest])) {
                    longest = tram;
                }
            }
            return longest;
        }

        /** Relinks all trips and returns how many active ones have no vehicle then. */
        int linkAnew(Line line) {
            line.fleet.emptyDuties();
            line.trips.listActive(order);
            int left = 0;
            for (int index = 0; index < order.size; index++) {
                int trip = order.numbers[index];
                int vehicle = vehicleFor(trip, line);
                if (vehicle == NONE) {
                    left++;
                } else {
                    line.fleet.insert(vehicle, line.positionFor(trip, vehicle), trip);
                }
            }
            return left;
        }

        private int vehicleFor(int trip, Line line) {
            // The trip is active and in no duty, so that the reasons 1 and 2 need not be asked for.
            listWithDuty(line);
            for (int index = 0; index < candidates.size; index++) {
                if (line.reasonInDuty(trip, trip, candidates.numbers[index]) == 0) {
                    return candidates.numbers[index];
                }
            }
            for (int vehicle = line.fleet.count - 1; vehicle >= 0; vehicle--) {
                if (line.fleet.length[vehicle] == 0 && line.reasonInDuty(trip, trip, vehicle) == 0) {
                    return vehicle;
                }
            }
            return NONE;
        }

        private void listWithDuty(Line line) {
            candidates.clear();
            for (int vehicle = 0; vehicle < line.fleet.count; vehicle++) {
                int last = line.fleet.lastTripOf(vehicle);
                if (last != NONE) {
                    candidates.put(line.arrivalOf(last), vehicle);
                }
            }
        }
    }

    /**
     * Finds a pairing of the least value by the Hungarian method. Each trip as a first one is a row, each trip as a
     * second one a column, and a row that is assigned to a column of no value stands for a trip without a pair. The
     * rows and columns are numbered from 1, as column 0 holds the row that looks for a column.
     */
    private static final class Pairing {
        private static final int MUCH = 1000000;

        private final int[][] values = new int[MOST_TRIPS + 1][MOST_TRIPS + 1];
        private final int[] rowPrice = new int[MOST_TRIPS + 1];
        private final int[] columnPrice = new int[MOST_TRIPS + 1];
        private final int[] rowOf = new int[MOST_TRIPS + 1];
        private final int[] columnBefore = new int[MOST_TRIPS + 1];
        private final int[] slack = new int[MOST_TRIPS + 1];
        private final boolean[] isReached = new boolean[MOST_TRIPS + 1];
        private int size;

        int mostPairs(Line line) {
            size = line.trips.count;
            for (int row = 1; row <= size; row++) {
                for (int column = 1; column <= size; column++) {
                    values[row][column] = isPair(line, row - 1, column - 1) ? -1 : 0;
                }
            }
            return -leastValue();
        }

        int leastCostAt(int price, Line line) {
            size = line.trips.count;
            for (int row = 1; row <= size; row++) {
                for (int column = 1; column <= size; column++) {
                    int first = row - 1;
                    int second = column - 1;
                    // A pair saves the price of its second trip; a pair that costs more is left out.
                    int change = line.trips.departure[second] - line.arrivalOf(first) - price;
                    values[row][column] = isPair(line, first, second) ? Math.min(change, 0) : 0;
                }
            }
            return price * line.trips.activeCount() + leastValue();
        }

        private static boolean isPair(Line line, int first, int second) {
            return !line.trips.cancelled[first] && !line.trips.cancelled[second] && line.canFollow(second, first);
        }

        private int leastValue() {
            Arrays.fill(rowPrice, 0);
            Arrays.fill(columnPrice, 0);
            Arrays.fill(rowOf, 0);
            for (int row = 1; row <= size; row++) {
                assign(row);
            }
            int sum = 0;
            for (int column = 1; column <= size; column++) {
                sum += values[rowOf[column]][column];
            }
            return sum;
        }

        /** Gives a row a column, for which rows before may change theirs. */
        private void assign(int row) {
            Arrays.fill(slack, MUCH);
            for (int column = 0; column <= size; column++) {
                isReached[column] = false;
            }
            rowOf[0] = row;
            int column = 0;
            for (int step = 0; step <= size && rowOf[column] != 0; step++) {
                column = reachFrom(column);
            }
            for (int step = 0; step <= size && column != 0; step++) {
                int before = columnBefore[column];
                rowOf[column] = rowOf[before];
                column = before;
            }
        }

        /** Goes on from a column to the nearest one that is not yet reached, and changes the prices by its slack. */
        private int reachFrom(int column) {
            isReached[column] = true;
            int row = rowOf[column];
            int nearest = 0;
            for (int other = 1; other <= size; other++) {
                if (!isReached[other]) {
                    int way = values[row][other] - rowPrice[row] - columnPrice[other];
                    if (way < slack[other]) {
                        slack[other] = way;
                        columnBefore[other] = column;
                    }
                    if (nearest == 0 || slack[other] < slack[nearest]) {
                        nearest = other;
                    }
                }
            }
            changePrices(nearest == 0 ? 0 : slack[nearest]);
            return nearest;
        }

        private void changePrices(int by) {
            for (int column = 0; column <= size; column++) {
                if (isReached[column]) {
                    rowPrice[rowOf[column]] += by;
                    columnPrice[column] -= by;
                } else {
                    slack[column] -= by;
                }
            }
        }
    }

    /** The text buffer, and the trips that were read from it last. */
    private static final class TripText {
        private static final int MOST_SIGNS = 60;
        /** A trip has at least six signs. */
        private static final int MOST_READ = 10;

        private final char[] signs = new char[MOST_SIGNS];
        private int length;
        /** Where reading stands: before the first sign that has not yet been found to continue the text. */
        private int place;
        private final int[] first = new int[MOST_READ];
        private final int[] last = new int[MOST_READ];
        private final int[] departure = new int[MOST_READ];
        int count;
        int fault = NONE;

        boolean isFull() {
            return length >= MOST_SIGNS;
        }

        void add(char sign) {
            if (length < MOST_SIGNS) {
                signs[length] = sign;
                length++;
            }
        }

        /** Reads the trips or finds the fault, and empties the buffer. */
        void parse() {
            place = 0;
            count = 0;
            boolean isSound = parseTrip();
            for (int next = 1; next < MOST_READ && isSound && place < length; next++) {
                isSound = parseTrip();
            }
            fault = isSound ? NONE : place;
            length = 0;
        }

        private boolean parseTrip() {
            int from = parseNumber(STOPS - 1);
            if (from == NONE || !passes('-')) {
                return false;
            }
            int to = parseNumber(STOPS - 1);
            if (to == NONE || !passes('@')) {
                return false;
            }
            int minute = parseNumber(LAST_DEPARTURE);
            if (minute == NONE || !passes(';') || count >= MOST_READ) {
                return false;
            }
            first[count] = from;
            last[count] = to;
            departure[count] = minute;
            count++;
            return true;
        }

        /** Returns the number at the place, or NONE, and then the place is that of the fault. */
        private int parseNumber(int greatest) {
            if (place >= length || !isDigit(signs[place])) {
                return NONE;
            }
            int number = signs[place] - '0';
            place++;
            // Behind a 0 at the beginning the number ends, so that a digit there is found not to be the next sign.
            for (; number > 0 && place < length && isDigit(signs[place]); place++) {
                int longer = 10 * number + signs[place] - '0';
                if (longer > greatest) {
                    return NONE;
                }
                number = longer;
            }
            return number;
        }

        private static boolean isDigit(char sign) {
            return '0' <= sign && sign <= '9';
        }

        private boolean passes(char sign) {
            if (place < length && signs[place] == sign) {
                place++;
                return true;
            }
            return false;
        }

        boolean canBeAddedTo(Line line) {
            if (line.trips.count + count > MOST_TRIPS) {
                return false;
            }
            for (int index = 0; index < count; index++) {
                if (!line.isTripAllowed(first[index], last[index], departure[index])) {
                    return false;
                }
            }
            return true;
        }

        void addTo(Line line) {
            for (int index = 0; index < count; index++) {
                line.trips.addActive(first[index], last[index], departure[index]);
            }
        }
    }

    /** The lines before the latest changes, the oldest first, and the snapshot. */
    private static final class History {
        private final Line[] kept = new Line[MOST_UNDONE];
        private final Line snapshot = new Line();
        int size;
        boolean isSaved;

        History() {
            for (int index = 0; index < MOST_UNDONE; index++) {
                kept[index] = new Line();
            }
        }

        void keep(Line line) {
            if (size >= MOST_UNDONE) {
                forgetOldest();
            }
            kept[size].copyFrom(line);
            size++;
        }

        private void forgetOldest() {
            Line oldest = kept[0];
            for (int index = 1; index < MOST_UNDONE; index++) {
                kept[index - 1] = kept[index];
            }
            kept[MOST_UNDONE - 1] = oldest;
            size = MOST_UNDONE - 1;
        }

        void takeBack(Line line) {
            if (size > 0) {
                size--;
                line.copyFrom(kept[size]);
            }
        }

        void saveCopy(Line line) {
            snapshot.copyFrom(line);
            isSaved = true;
        }

        void bringBack(Line line) {
            line.copyFrom(snapshot);
            size = 0;
        }
    }
}
