import java.util.ArrayDeque;
import java.util.ArrayList;
import java.util.Arrays;
import java.util.Collections;
import java.util.Comparator;
import java.util.Deque;
import java.util.HashMap;
import java.util.LinkedHashMap;
import java.util.List;
import java.util.Map;
import java.util.NoSuchElementException;
import java.util.TreeSet;
import java.util.function.Predicate;
import java.util.regex.Matcher;
import java.util.regex.Pattern;

/** A second tram line after the same document, written for plainness with the library; ModelTest compares with it. */
final class Model {

    private static final class Trip {
        int first;
        int last;
        int departure;
        boolean cancelled;

        Trip copy() {
            Trip copy = new Trip();
            copy.first = first;
            copy.last = last;
            copy.departure = departure;
            copy.cancelled = cancelled;
            return copy;
        }

        /** The stops of its way, in the order in which it comes to them. */
        List<Integer> way() {
            List<Integer> stops = new ArrayList<>();
            int step = first < last ? 1 : -1;
            for (int stop = first; stop != last; stop += step) {
                stops.add(stop);
            }
            stops.add(last);
            return stops;
        }

        int direction() {
            return first < last ? 0 : 1;
        }
    }

    private static final class State {
        int[] minutes = {3, 3, 3, 3, 3, 3, 3, 3, 3, 3, 3};
        int[] detours = new int[11];
        TreeSet<Integer> turns = new TreeSet<>(List.of(0, 11));
        int[] settings = {2, 4, 1};
        List<Trip> trips = new ArrayList<>();
        List<Integer> homes = new ArrayList<>();
        List<List<Integer>> duties = new ArrayList<>();
        List<int[]> blocks = new ArrayList<>();

        State copy() {
            State copy = new State();
            copy.minutes = minutes.clone();
            copy.detours = detours.clone();
            copy.turns = new TreeSet<>(turns);
            copy.settings = settings.clone();
            for (Trip trip : trips) {
                copy.trips.add(trip.copy());
            }
            copy.homes = new ArrayList<>(homes);
            for (List<Integer> duty : duties) {
                copy.duties.add(new ArrayList<>(duty));
            }
            copy.blocks = new ArrayList<>(blocks);
            return copy;
        }

        /** The planned minutes at the stops of a trip. */
        Map<Integer, Integer> times(int number) {
            Map<Integer, Integer> times = new LinkedHashMap<>();
            Trip trip = trips.get(number);
            int minute = trip.departure;
            int before = -1;
            for (int stop : trip.way()) {
                if (before >= 0) {
                    minute += minutes[Math.min(before, stop)];
                }
                times.put(stop, minute);
                before = stop;
            }
            return times;
        }

        int arrival(int number) {
            return times(number).get(trips.get(number).last);
        }

        boolean follows(int next, int before) {
            return trips.get(next).first == trips.get(before).last
                    && trips.get(next).departure - arrival(before) >= settings[0];
        }

        boolean sound() {
            for (int vehicle = 0; vehicle < homes.size(); vehicle++) {
                int stop = homes.get(vehicle) == 0 ? 0 : 11;
                int ready = Integer.MIN_VALUE;
                for (int trip : duties.get(vehicle)) {
                    if (trips.get(trip).first != stop || trips.get(trip).departure < ready) {
                        return false;
                    }
                    stop = trips.get(trip).last;
                    ready = arrival(trip) + settings[0];
                }
            }
            return true;
        }

        int vehicleOf(int trip) {
            for (int vehicle = 0; vehicle < duties.size(); vehicle++) {
                if (duties.get(vehicle).contains(trip)) {
                    return vehicle;
                }
            }
            return -1;
        }

        List<Integer> active() {
            List<Integer> numbers = new ArrayList<>();
            for (int trip = 0; trip < trips.size(); trip++) {
                if (!trips.get(trip).cancelled) {
                    numbers.add(trip);
                }
            }
            return numbers;
        }

        List<Integer> activeByDeparture() {
            List<Integer> numbers = active();
            numbers.sort(Comparator.comparingInt((Integer trip) -> trips.get(trip).departure).thenComparing(trip -> trip));
            return numbers;
        }

        /** The vehicles of a depot, the front first. */
        List<Integer> row(int depot) {
            List<Integer> row = new ArrayList<>();
            for (int vehicle = 0; vehicle < homes.size(); vehicle++) {
                if (homes.get(vehicle) == depot) {
                    row.add(0, vehicle);
                }
            }
            return row;
        }

        int firstDeparture(int vehicle) {
            return trips.get(duties.get(vehicle).get(0)).departure;
        }
    }

    private State s = new State();
    private State snapshot = null;
    private final Deque<State> kept = new ArrayDeque<>();
    private int reason = 0;
    private StringBuilder buffer = new StringBuilder();
    private int fault = -1;

    private void change(State next) {
        kept.push(s);
        if (kept.size() > 8) {
            kept.removeLast();
        }
        s = next;
    }

    private static void index(int index, int bound) {
        if (index < 0 || index >= bound) {
            throw new IndexOutOfBoundsException();
        }
    }

    private static void argument(boolean good) {
        if (!good) {
            throw new IllegalArgumentException();
        }
    }

    private static void state(boolean good) {
        if (!good) {
            throw new IllegalStateException();
        }
    }

    private static void element(boolean good) {
        if (!good) {
            throw new NoSuchElementException();
        }
    }

    private void tripIndex(int trip) {
        index(trip, s.trips.size());
    }

    private void vehicleIndex(int vehicle) {
        index(vehicle, s.homes.size());
    }

    int setSection(int section, int minutes, int detour) {
        index(section, 11);
        argument(minutes >= 1 && minutes <= 9 && detour >= 0 && detour <= 30);
        State next = s.copy();
        next.minutes[section] = minutes;
        next.detours[section] = detour;
        state(next.sound());
        int old = 10 * s.minutes[section] + s.detours[section];
        change(next);
        return old;
    }

    boolean setTurn(int stop, boolean allowed) {
        index(stop - 1, 10);
        if (!allowed) {
            for (int trip : s.active()) {
                state(s.trips.get(trip).first != stop && s.trips.get(trip).last != stop);
            }
        }
        State next = s.copy();
        boolean old = allowed ? !next.turns.add(stop) : next.turns.remove(stop);
        change(next);
        return old;
    }

    int set(int setting, int value) {
        index(setting, 3);
        int[] greatest = {20, 30, 10};
        argument(value >= (setting == 1 ? 1 : 0) && value <= greatest[setting]);
        State next = s.copy();
        next.settings[setting] = value;
        state(next.sound());
        int old = s.settings[setting];
        change(next);
        return old;
    }

    private static int add(State to, int first, int last, int departure) {
        index(first, 12);
        index(last, 12);
        argument(first != last && to.turns.contains(first) && to.turns.contains(last));
        argument(departure >= 0 && departure < 1440);
        state(to.trips.size() < 30);
        Trip trip = new Trip();
        trip.first = first;
        trip.last = last;
        trip.departure = departure;
        to.trips.add(trip);
        return to.trips.size() - 1;
    }

    int addTrip(int first, int last, int departure) {
        State next = s.copy();
        int number = add(next, first, last, departure);
        change(next);
        return number;
    }

    private static void cutDuty(State of, int trip, boolean tripToo) {
        for (List<Integer> duty : of.duties) {
            int position = duty.indexOf(trip);
            if (position >= 0) {
                while (duty.size() > position + (tripToo ? 0 : 1)) {
                    duty.remove(duty.size() - 1);
                }
            }
        }
    }

    boolean cancel(int trip, boolean cancelled) {
        tripIndex(trip);
        State next = s.copy();
        Trip changed = next.trips.get(trip);
        boolean old = changed.cancelled;
        if (cancelled) {
            cutDuty(next, trip, true);
        } else {
            state(next.turns.contains(changed.first) && next.turns.contains(changed.last));
        }
        changed.cancelled = cancelled;
        change(next);
        return old;
    }

    int trip(int number, int what) {
        tripIndex(number);
        argument(what >= 0 && what <= 6);
        Trip trip = s.trips.get(number);
        int[] all = {trip.first, trip.last, trip.departure, s.arrival(number), trip.direction(),
            trip.cancelled ? 1 : 0, s.vehicleOf(number)};
        return all[what];
    }

    int planned(int trip, int stop) {
        tripIndex(trip);
        Integer minute = s.times(trip).get(stop);
        element(minute != null);
        return minute;
    }

    int count(int what) {
        argument(what >= 0 && what <= 6);
        int inDuties = 0;
        int withDuty = 0;
        for (List<Integer> duty : s.duties) {
            inDuties += duty.size();
            withDuty += duty.isEmpty() ? 0 : 1;
        }
        int[] all = {s.trips.size(), s.active().size(), inDuties, s.homes.size(), withDuty, s.blocks.size(),
            s.turns.size()};
        return all[what];
    }

    /** The passages as pairs of minute and trip. */
    private List<int[]> passages(int direction, int stop) {
        index(direction, 2);
        index(stop, 12);
        List<int[]> list = new ArrayList<>();
        for (int trip : s.active()) {
            Integer minute = s.times(trip).get(stop);
            if (minute != null && s.trips.get(trip).direction() == direction && s.trips.get(trip).last != stop) {
                list.add(new int[] {minute, trip});
            }
        }
        list.sort(Comparator.comparingInt((int[] pair) -> pair[0]).thenComparingInt(pair -> pair[1]));
        return list;
    }

    private List<Integer> headways(int direction, int stop) {
        List<int[]> list = passages(direction, stop);
        List<Integer> headways = new ArrayList<>();
        for (int at = 1; at < list.size(); at++) {
            headways.add(list.get(at)[0] - list.get(at - 1)[0]);
        }
        return headways;
    }

    int passage(int direction, int stop, int index, boolean isTrip) {
        List<int[]> list = passages(direction, stop);
        element(index >= 0 && index < list.size());
        return list.get(index)[isTrip ? 1 : 0];
    }

    int bunches(int direction, int stop) {
        return (int) headways(direction, stop).stream().filter(headway -> headway < s.settings[1]).count();
    }

    int headway(int direction, int stop, boolean greatest) {
        List<Integer> headways = headways(direction, stop);
        element(!headways.isEmpty());
        return greatest ? Collections.max(headways) : Collections.min(headways);
    }

    double meanHeadway(int direction, int stop) {
        List<Integer> headways = headways(direction, stop);
        if (headways.isEmpty()) {
            throw new ArithmeticException();
        }
        return (double) headways.stream().mapToInt(headway -> headway).sum() / headways.size();
    }

    int addVehicle(int depot) {
        index(depot, 2);
        state(s.homes.size() < 10);
        State next = s.copy();
        next.homes.add(depot);
        next.duties.add(new ArrayList<>());
        change(next);
        return next.homes.size() - 1;
    }

    /** Asks for the reasons in the order of the document, for one trip or for two. */
    private static int reasonFor(State of, List<Integer> given, int vehicle) {
        int first = given.get(0);
        int last = given.get(given.size() - 1);
        boolean isRound = given.size() == 2;
        for (int trip : given) {
            if (of.trips.get(trip).cancelled || (isRound && first == last)) {
                return 1;
            }
        }
        for (int trip : given) {
            if (of.vehicleOf(trip) >= 0) {
                return 2;
            }
        }
        if (isRound && !of.follows(last, first)) {
            return 7;
        }
        int departure = of.trips.get(first).departure;
        int before = -1;
        int behind = -1;
        for (int trip : of.duties.get(vehicle)) {
            int other = of.trips.get(trip).departure;
            if (other == departure) {
                return 3;
            }
            if (other < departure) {
                before = trip;
            } else if (behind < 0) {
                behind = trip;
            }
        }
        if (before >= 0 && !of.follows(first, before)) {
            return 4;
        }
        if (behind >= 0 && !of.follows(behind, last)) {
            return 5;
        }
        if (before < 0 && of.trips.get(first).first != (of.homes.get(vehicle) == 0 ? 0 : 11)) {
            return 6;
        }
        return 0;
    }

    private static int put(State to, List<Integer> given, int vehicle) {
        List<Integer> duty = to.duties.get(vehicle);
        int position = 0;
        for (int trip : duty) {
            if (to.trips.get(trip).departure < to.trips.get(given.get(0)).departure) {
                position++;
            }
        }
        duty.addAll(position, given);
        return position;
    }

    private int tryToGive(List<Integer> given, int vehicle) {
        for (int trip : given) {
            tripIndex(trip);
        }
        vehicleIndex(vehicle);
        int found = reasonFor(s, given, vehicle);
        if (found != 0) {
            reason = found;
            throw new UnsupportedOperationException();
        }
        State next = s.copy();
        int position = put(next, given, vehicle);
        change(next);
        return position;
    }

    int give(int trip, int vehicle) {
        return tryToGive(List.of(trip), vehicle);
    }

    int giveRound(int first, int second, int vehicle) {
        return tryToGive(List.of(first, second), vehicle);
    }

    int refusal() {
        element(reason != 0);
        return reason;
    }

    int wouldRefuse(int trip, int vehicle) {
        tripIndex(trip);
        vehicleIndex(vehicle);
        return reasonFor(s, List.of(trip), vehicle);
    }

    int take(int vehicle) {
        vehicleIndex(vehicle);
        element(!s.duties.get(vehicle).isEmpty());
        State next = s.copy();
        List<Integer> duty = next.duties.get(vehicle);
        int trip = duty.remove(duty.size() - 1);
        change(next);
        return trip;
    }

    int exchange(int one, int other, int minute) {
        vehicleIndex(one);
        vehicleIndex(other);
        argument(one != other);
        State next = s.copy();
        Predicate<Integer> moves = trip -> next.trips.get(trip).departure >= minute;
        List<Integer> ofOne = next.duties.get(one).stream().filter(moves).toList();
        List<Integer> ofOther = next.duties.get(other).stream().filter(moves).toList();
        next.duties.get(one).removeIf(moves);
        next.duties.get(other).removeIf(moves);
        next.duties.get(one).addAll(ofOther);
        next.duties.get(other).addAll(ofOne);
        state(next.sound());
        change(next);
        return ofOne.size() + ofOther.size();
    }

    int duty(int vehicle, int position) {
        vehicleIndex(vehicle);
        element(position >= 0 && position < s.duties.get(vehicle).size());
        return s.duties.get(vehicle).get(position);
    }

    int vehicle(int vehicle, int what) {
        vehicleIndex(vehicle);
        argument(what >= 0 && what <= 6);
        List<Integer> duty = s.duties.get(vehicle);
        List<Integer> row = s.row(s.homes.get(vehicle));
        int riding = 0;
        for (int trip : duty) {
            riding += s.arrival(trip) - s.trips.get(trip).departure;
        }
        int whole = duty.isEmpty() ? 0 : s.arrival(duty.get(duty.size() - 1)) - s.firstDeparture(vehicle);
        boolean boxed = false;
        for (int before : row.subList(0, row.indexOf(vehicle))) {
            boxed = boxed || s.duties.get(before).isEmpty()
                    || (!duty.isEmpty() && s.firstDeparture(before) > s.firstDeparture(vehicle));
        }
        int end = duty.isEmpty() ? 11 * s.homes.get(vehicle) : s.trips.get(duty.get(duty.size() - 1)).last;
        int[] all = {s.homes.get(vehicle), duty.size(), riding, whole - riding, row.indexOf(vehicle),
            boxed && !duty.isEmpty() ? 1 : 0, end};
        return all[what];
    }

    int leaving(int depot, int index) {
        index(depot, 2);
        List<Integer> row = s.row(depot);
        row.removeIf(vehicle -> s.duties.get(vehicle).isEmpty());
        row.sort(Comparator.comparingInt(s::firstDeparture));
        element(index >= 0 && index < row.size());
        return row.get(index);
    }

    int block(int section, int first, int last) {
        index(section, 11);
        argument(first >= 0 && first <= last && last <= 2000);
        state(s.blocks.size() < 6);
        State next = s.copy();
        next.blocks.add(new int[] {section, first, last});
        change(next);
        return next.blocks.size() - 1;
    }

    int unblock(int block) {
        index(block, s.blocks.size());
        State next = s.copy();
        next.blocks.remove(block);
        change(next);
        return next.blocks.size();
    }

    /** A day, gone through minute by minute. */
    private static final class Run {
        private static final class Tram {
            List<Integer> left;
            List<Integer> way;
            int ready;
        }

        final State of;
        final Map<List<Integer>, Integer> arrivals = new HashMap<>();
        final Map<List<Integer>, Integer> departures = new HashMap<>();
        /** Each departure as direction, stop and minute. */
        final List<int[]> log = new ArrayList<>();
        final Map<Integer, Integer> delays = new HashMap<>();
        final List<Tram> trams = new ArrayList<>();
        int inDuties = 0;
        int detours = 0;
        int gapWaits = 0;
        int blockWaits = 0;

        Run(State of) {
            this.of = of;
            for (List<Integer> duty : of.duties) {
                inDuties += duty.size();
                Tram tram = new Tram();
                tram.left = new ArrayList<>(duty);
                tram.ready = 0;
                trams.add(tram);
                begin(tram);
            }
            for (int minute = 0; minute < 3000; minute++) {
                Tram tram = lowest(minute);
                while (tram != null) {
                    look(tram, minute);
                    tram = lowest(minute);
                }
            }
        }

        private void begin(Tram tram) {
            if (!tram.left.isEmpty()) {
                Trip trip = of.trips.get(tram.left.get(0));
                tram.way = trip.way();
                tram.ready = Math.max(tram.ready, trip.departure);
            }
        }

        private Tram lowest(int minute) {
            Tram lowest = null;
            for (Tram tram : trams) {
                if (!tram.left.isEmpty() && tram.ready == minute
                        && (lowest == null || tram.left.get(0) < lowest.left.get(0))) {
                    lowest = tram;
                }
            }
            return lowest;
        }

        private void look(Tram tram, int minute) {
            int number = tram.left.get(0);
            int stop = tram.way.get(0);
            int next = tram.way.get(1);
            int direction = next > stop ? 0 : 1;
            int section = Math.min(stop, next);
            for (int[] gone : log) {
                if (gone[0] == direction && gone[1] == stop && minute - gone[2] < of.settings[2]) {
                    tram.ready = Math.max(tram.ready, gone[2] + of.settings[2]);
                }
            }
            if (tram.ready > minute) {
                gapWaits += tram.ready - minute;
                return;
            }
            boolean blocked = false;
            for (int[] block : of.blocks) {
                if (!blocked && block[0] == section && block[1] <= minute && minute <= block[2]) {
                    blocked = true;
                    if (of.detours[section] == 0) {
                        tram.ready = block[2] + 1;
                        blockWaits += tram.ready - minute;
                        return;
                    }
                }
            }
            detours += blocked ? 1 : 0;
            departures.put(List.of(number, stop), minute);
            log.add(new int[] {direction, stop, minute});
            tram.ready = minute + (blocked ? of.detours[section] : of.minutes[section]);
            arrivals.put(List.of(number, next), tram.ready);
            tram.way.remove(0);
            if (tram.way.size() == 1) {
                delays.put(number, tram.ready - of.arrival(number));
                tram.left.remove(0);
                tram.ready += of.settings[0];
                begin(tram);
            }
        }
    }

    int actual(int trip, int stop, boolean isDeparture) {
        tripIndex(trip);
        Run run = new Run(s);
        Integer minute = (isDeparture ? run.departures : run.arrivals).get(List.of(trip, stop));
        element(minute != null);
        return minute;
    }

    int delay(int trip) {
        tripIndex(trip);
        Integer delay = new Run(s).delays.get(trip);
        element(delay != null);
        return delay;
    }

    int run(int what) {
        argument(what >= 0 && what <= 6);
        Run run = new Run(s);
        int arrived = run.delays.size();
        int[] all = {arrived, run.inDuties - arrived, run.delays.values().stream().mapToInt(delay -> delay).sum(),
            run.delays.isEmpty() ? 0 : Collections.max(run.delays.values()), run.detours, run.gapWaits, run.blockWaits};
        return all[what];
    }

    int actualBunches(int direction, int stop) {
        index(direction, 2);
        index(stop, 12);
        List<Integer> minutes = new ArrayList<>();
        for (int[] gone : new Run(s).log) {
            if (gone[0] == direction && gone[1] == stop) {
                minutes.add(gone[2]);
            }
        }
        Collections.sort(minutes);
        int bunches = 0;
        for (int at = 1; at < minutes.size(); at++) {
            bunches += minutes.get(at) - minutes.get(at - 1) < s.settings[1] ? 1 : 0;
        }
        return bunches;
    }

    double meanDelay() {
        Run run = new Run(s);
        if (run.delays.isEmpty()) {
            throw new ArithmeticException();
        }
        return (double) run.delays.values().stream().mapToInt(delay -> delay).sum() / run.delays.size();
    }

    private void between(int trip, int stop) {
        List<Integer> way = s.trips.get(trip).way();
        argument(way.indexOf(stop) > 0 && way.indexOf(stop) < way.size() - 1 && s.turns.contains(stop));
    }

    int turnShort(int trip, int stop) {
        tripIndex(trip);
        between(trip, stop);
        State next = s.copy();
        next.trips.get(trip).last = stop;
        cutDuty(next, trip, false);
        int shorter = s.arrival(trip) - next.arrival(trip);
        change(next);
        return shorter;
    }

    int startLate(int trip, int stop) {
        tripIndex(trip);
        between(trip, stop);
        State next = s.copy();
        next.trips.get(trip).first = stop;
        next.trips.get(trip).departure = s.times(trip).get(stop);
        argument(next.trips.get(trip).departure <= 1439);
        cutDuty(next, trip, true);
        int shorter = next.trips.get(trip).departure - s.trips.get(trip).departure;
        change(next);
        return shorter;
    }

    int leastVehicles(boolean isByWaiting) {
        return isByWaiting ? byWaiting() : byMatching();
    }

    private int byWaiting() {
        List<int[]> waiting = new ArrayList<>();
        int made = 0;
        for (int trip : s.activeByDeparture()) {
            int[] best = null;
            for (int[] tram : waiting) {
                if (tram[0] == s.trips.get(trip).first && s.trips.get(trip).departure - tram[1] >= s.settings[0]
                        && (best == null || tram[1] < best[1])) {
                    best = tram;
                }
            }
            if (best == null) {
                made++;
            } else {
                waiting.remove(best);
            }
            waiting.add(new int[] {s.trips.get(trip).last, s.arrival(trip)});
        }
        return made;
    }

    private int byMatching() {
        Map<Integer, Integer> firstOf = new HashMap<>();
        int pairs = 0;
        for (int first : s.active()) {
            pairs += augment(first, firstOf, new TreeSet<>()) ? 1 : 0;
        }
        return s.active().size() - pairs;
    }

    private boolean augment(int first, Map<Integer, Integer> firstOf, TreeSet<Integer> seen) {
        for (int second : s.active()) {
            if (s.follows(second, first) && seen.add(second)
                    && (!firstOf.containsKey(second) || augment(firstOf.get(second), firstOf, seen))) {
                firstOf.put(second, first);
                return true;
            }
        }
        return false;
    }

    /** Adds pairs by the cheapest ways of change, one after the other, as long as the cost falls. */
    int leastCost(int price) {
        argument(price >= 0 && price <= 1000);
        List<Integer> active = s.active();
        int size = active.size();
        int[][] costs = new int[size][size];
        for (int first = 0; first < size; first++) {
            for (int second = 0; second < size; second++) {
                int before = active.get(first);
                int next = active.get(second);
                costs[first][second] = s.follows(next, before)
                        ? s.trips.get(next).departure - s.arrival(before) - price : FAR;
            }
        }
        int[] secondOf = new int[size];
        int[] firstOf = new int[size];
        Arrays.fill(secondOf, -1);
        Arrays.fill(firstOf, -1);
        int cost = price * size;
        while (true) {
            int change = cheapestChange(costs, secondOf, firstOf);
            if (change >= 0) {
                return cost;
            }
            cost += change;
        }
    }

    private static final int FAR = 1000000000;

    private static int cheapestChange(int[][] costs, int[] secondOf, int[] firstOf) {
        int size = costs.length;
        int[] toFirst = new int[size];
        int[] toSecond = new int[size];
        int[] from = new int[size];
        Arrays.fill(toSecond, FAR);
        for (int first = 0; first < size; first++) {
            toFirst[first] = secondOf[first] < 0 ? 0 : FAR;
        }
        boolean isShorter = true;
        while (isShorter) {
            isShorter = false;
            for (int first = 0; first < size; first++) {
                for (int second = 0; second < size; second++) {
                    if (toFirst[first] < FAR && costs[first][second] < FAR && secondOf[first] != second
                            && toFirst[first] + costs[first][second] < toSecond[second]) {
                        toSecond[second] = toFirst[first] + costs[first][second];
                        from[second] = first;
                        isShorter = true;
                    }
                }
            }
            for (int second = 0; second < size; second++) {
                int first = firstOf[second];
                if (first >= 0 && toSecond[second] < FAR) {
                    toFirst[first] = Math.min(toFirst[first], toSecond[second] - costs[first][second]);
                }
            }
        }
        int end = -1;
        for (int second = 0; second < size; second++) {
            if (firstOf[second] < 0 && (end < 0 || toSecond[second] < toSecond[end])) {
                end = second;
            }
        }
        if (end < 0 || toSecond[end] >= 0) {
            return 0;
        }
        int change = toSecond[end];
        int second = end;
        while (second >= 0) {
            int first = from[second];
            int before = secondOf[first];
            secondOf[first] = second;
            firstOf[second] = first;
            second = before;
        }
        return change;
    }

    int nextTrip(int trip) {
        tripIndex(trip);
        for (int next : s.activeByDeparture()) {
            if (s.follows(next, trip)) {
                return next;
            }
        }
        throw new NoSuchElementException();
    }

    int relink() {
        State next = s.copy();
        next.duties.forEach(List::clear);
        int left = 0;
        for (int trip : next.activeByDeparture()) {
            List<Integer> order = new ArrayList<>();
            for (int vehicle = 0; vehicle < next.homes.size(); vehicle++) {
                if (!next.duties.get(vehicle).isEmpty()) {
                    order.add(vehicle);
                }
            }
            order.sort(Comparator.comparingInt(
                    vehicle -> next.arrival(next.duties.get(vehicle).get(next.duties.get(vehicle).size() - 1))));
            for (int depot = 0; depot < 2; depot++) {
                if (next.trips.get(trip).first == 11 * depot) {
                    for (int vehicle : next.row(depot)) {
                        if (next.duties.get(vehicle).isEmpty()) {
                            order.add(vehicle);
                        }
                    }
                }
            }
            order.removeIf(vehicle -> reasonFor(next, List.of(trip), vehicle) != 0);
            if (order.isEmpty()) {
                left++;
            } else {
                put(next, List.of(trip), order.get(0));
            }
        }
        change(next);
        return left;
    }

    void append(char c) {
        state(buffer.length() < 60);
        buffer.append(c);
    }

    private static final String STOP = "(0|[1-9]|10|11)";
    private static final String DEPARTURE = "(0|[1-9][0-9]{0,2}|1[0-3][0-9][0-9]|14[0-3][0-9])";
    private static final String TRIP = STOP + "-" + STOP + "@" + DEPARTURE + ";";
    private static final Pattern TEXT = Pattern.compile("(" + TRIP + ")+");

    /** Whether a text of trips begins with this: the pattern matches, or asks for what would come behind the end. */
    private static boolean begins(String text) {
        Matcher matcher = TEXT.matcher(text);
        return matcher.matches() || matcher.hitEnd();
    }

    static int faultOf(String text) {
        if (TEXT.matcher(text).matches()) {
            return -1;
        }
        int position = 0;
        while (position < text.length() && begins(text.substring(0, position + 1))) {
            position++;
        }
        return position;
    }

    int readTrips() {
        String text = buffer.toString();
        buffer = new StringBuilder();
        fault = faultOf(text);
        argument(fault < 0);
        State next = s.copy();
        Matcher matcher = Pattern.compile(TRIP).matcher(text);
        int added = 0;
        while (matcher.find()) {
            try {
                add(next, Integer.parseInt(matcher.group(1)), Integer.parseInt(matcher.group(2)),
                        Integer.parseInt(matcher.group(3)));
            } catch (RuntimeException e) {
                throw new IllegalStateException();
            }
            added++;
        }
        change(next);
        return added;
    }

    int faultPosition() {
        return fault;
    }

    int undo() {
        state(!kept.isEmpty());
        s = kept.pop();
        return kept.size();
    }

    void save() {
        snapshot = s;
    }

    void restore() {
        state(snapshot != null);
        s = snapshot;
        kept.clear();
    }
}
