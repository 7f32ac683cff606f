/** The boundary cases of "Short turns", "Least vehicles" and "Relinking" and of the promises 31 to 36, a test each. */
public final class RelinkingBoundariesTest {

    public static void main(String[] args) {
        shortTurnInDuty();
        lateStartInDuty();
        shortTurnsOfCancelledTrips();
        minutesOfShortTurn();
        noSuchTripToTurn();
        badShortTurn();
        minutesOfLateStart();
        noSuchTripToStart();
        badLateStart();
        wholePairings();
        orderOfWaiting();
        turnTimeOfWaiting();
        noTripsNoVehicles();
        costsOfPairings();
        leastCosts();
        costsInAnyOrder();
        thirtyTrips();
        priceOutOfRange();
        soonestAndLowest();
        nextOfCancelledTrip();
        noSuchTripBefore();
        noNextTrip();
        dutiesEmptied();
        withDutyFirst();
        earliestArrivalFirst();
        lowestNumberOfSeveral();
        frontOfTheRow();
        tripsLeft();
        numberOfTripsLeft();
        plannedArrivals();
        Check.finish();
    }

    /** 0: 0-11@10 (43), 1: 11-0@45 (78), 2: 0-11@80 (113), all of vehicle 0; turns at all stops. */
    private static TramLines line() {
        TramLines x = new TramLines();
        for (int stop = 1; stop <= 10; stop++) {
            x.setTurn(stop, true);
        }
        x.addTrip(0, 11, 10);
        x.addTrip(11, 0, 45);
        x.addTrip(0, 11, 80);
        x.addVehicle(0);
        x.addVehicle(0);
        x.give(0, 0);
        x.give(1, 0);
        x.give(2, 0);
        return x;
    }

    private static void dueDuty(String what, TramLines x, int vehicle, int... trips) {
        Check.due(what + " length", x.vehicle(vehicle, 1), trips.length);
        for (int position = 0; position < trips.length; position++) {
            Check.due(what + " at " + position, x.duty(vehicle, position), trips[position]);
        }
    }

    private static void shortTurnInDuty() {
        Check.sentence("To turn a trip short at a stop means that its last stop becomes this one, at which trips can turn, "
                + "and which lies between its first and its last stop; all trips behind it in its duty are taken out of "
                + "the duty.");
        TramLines x = line();
        x.turnShort(2, 1);
        dueDuty("the last one: none behind it", x, 0, 0, 1, 2);
        x.turnShort(1, 10);
        dueDuty("the middle one", x, 0, 0, 1);
        x.turnShort(0, 1);
        dueDuty("the first one", x, 0, 0);
        int[] lasts = {1, 10, 1};
        for (int trip = 0; trip < 3; trip++) {
            Check.due("first stop of " + trip, x.trip(trip, 0), trip == 1 ? 11 : 0);
            Check.due("last stop of " + trip, x.trip(trip, 1), lasts[trip]);
            Check.due("vehicle of " + trip, x.trip(trip, 6), trip == 0 ? 0 : -1);
            Check.due("still active " + trip, x.trip(trip, 5), 0);
        }
        TramLines y = line();
        y.addTrip(0, 11, 10);
        y.turnShort(3, 5);
        Check.due("one in no duty", y.count(2), 3);
        y.give(3, 1);
        y.turnShort(3, 4);
        Check.due("the other duty stays", y.vehicle(0, 1), 3);
    }

    private static void lateStartInDuty() {
        Check.sentence("To start a trip late at a stop means that its first stop becomes this one, likewise, and its "
                + "departure the planned one there; it and all trips behind it are taken out of its duty.");
        TramLines x = line();
        x.startLate(2, 10);
        dueDuty("the last one", x, 0, 0, 1);
        x.startLate(1, 10);
        dueDuty("the middle one then", x, 0, 0);
        x.startLate(0, 1);
        dueDuty("the first one", x, 0);
        int[] firsts = {1, 10, 10};
        int[] departures = {13, 48, 110};
        for (int trip = 0; trip < 3; trip++) {
            Check.due("first stop of " + trip, x.trip(trip, 0), firsts[trip]);
            Check.due("last stop of " + trip, x.trip(trip, 1), trip == 1 ? 0 : 11);
            Check.due("departure of " + trip, x.trip(trip, 2), departures[trip]);
            Check.due("vehicle of " + trip, x.trip(trip, 6), -1);
            Check.due("still active " + trip, x.trip(trip, 5), 0);
        }
        TramLines y = line();
        y.startLate(0, 5);
        dueDuty("the first one of three", y, 0);
        Check.due("all are free", y.count(2), 0);
    }

    private static void shortTurnsOfCancelledTrips() {
        Check.sentence("Short turns, late starts and nextTrip are possible for cancelled trips, too.");
        TramLines x = line();
        x.cancel(2, true);
        Check.due("turnShort", x.turnShort(2, 10), 3);
        Check.due("startLate", x.startLate(2, 1), 3);
        Check.due("it is still cancelled", x.trip(2, 5), 1);
        Check.due("its first stop", x.trip(2, 0), 1);
        Check.due("its last stop", x.trip(2, 1), 10);
        Check.due("the duty stays", x.vehicle(0, 1), 2);
        x.setTurn(1, false);
        Check.due("with no turn at its first stop", x.turnShort(2, 9), 3);
        Check.badState("not active with no turn at its first stop", () -> x.cancel(2, false));
        Check.due("startLate again", x.startLate(2, 8), 21);
        Check.due("active again", x.cancel(2, false), true);
        x.cancel(0, true);
        Check.due("nextTrip", x.nextTrip(0), 1);
    }

    private static void minutesOfShortTurn() {
        Check.sentence("turnShort returns the minutes by which it becomes shorter.");
        TramLines x = line();
        x.take(0);
        x.take(0);
        x.setSection(10, 1, 0);
        x.setSection(0, 9, 0);
        Check.due("up by the last section", x.turnShort(0, 10), 1);
        Check.due("its arrival", x.trip(0, 3), 10 + 9 + 27);
        Check.due("up by all but the first section", x.turnShort(0, 1), 27);
        Check.due("its arrival then", x.trip(0, 3), 19);
        Check.due("down by the last section", x.turnShort(1, 1), 9);
        Check.due("down by all but the first section", x.turnShort(1, 10), 27);
        Check.due("its arrival in the end", x.trip(1, 3), 46);
    }

    private static void noSuchTripToTurn() {
        Check.sentence("turnShort throws IndexOutOfBoundsException if there is no such trip");
        TramLines x = line();
        for (int trip : Check.outside(0, 2)) {
            Check.noSuchIndex("turnShort(" + trip + ", 5)", () -> x.turnShort(trip, 5));
            Check.noSuchIndex("turnShort(" + trip + ", 12)", () -> x.turnShort(trip, 12));
        }
        Check.noSuchIndex("without trips", () -> new TramLines().turnShort(0, 5));
    }

    private static void badShortTurn() {
        Check.sentence("turnShort throws IllegalArgumentException if the stop does not lie between its first and last "
                + "stop, or trips cannot turn there");
        TramLines x = line();
        x.addTrip(3, 6, 0);
        x.addTrip(6, 3, 0);
        x.addTrip(7, 8, 0);
        int[] wrong = {3, 6, 2, 7, 0, 11, -1, 12, Integer.MIN_VALUE, Integer.MAX_VALUE};
        for (int stop : wrong) {
            Check.badArgument("up at " + stop, () -> x.turnShort(3, stop));
            Check.badArgument("down at " + stop, () -> x.turnShort(4, stop));
        }
        for (int stop = 0; stop <= 11; stop++) {
            int asked = stop;
            Check.badArgument("of one section, at " + stop, () -> x.turnShort(5, asked));
        }
        x.setTurn(4, false);
        Check.badArgument("up, no turn at 4", () -> x.turnShort(3, 4));
        Check.badArgument("down, no turn at 4", () -> x.turnShort(4, 4));
        Check.due("up next to its last stop", x.turnShort(3, 5), 3);
        Check.badArgument("up at its new last stop", () -> x.turnShort(3, 5));
        Check.due("down next to its first stop", x.turnShort(4, 5), 6);
        x.setTurn(4, true);
        Check.due("up next to its first stop", x.turnShort(3, 4), 3);
    }

    private static void minutesOfLateStart() {
        Check.sentence("startLate returns the minutes by which it becomes shorter.");
        TramLines x = line();
        x.take(0);
        x.take(0);
        x.setSection(10, 1, 0);
        x.setSection(0, 9, 0);
        Check.due("up by the first section", x.startLate(0, 1), 9);
        Check.due("up by all but the last section", x.startLate(0, 10), 27);
        Check.due("its departure", x.trip(0, 2), 46);
        Check.due("its arrival", x.trip(0, 3), 47);
        Check.due("down by the first section", x.startLate(1, 10), 1);
        Check.due("down by all but the last section", x.startLate(1, 1), 27);
        Check.due("its departure then", x.trip(1, 2), 73);
    }

    private static void noSuchTripToStart() {
        Check.sentence("startLate throws IndexOutOfBoundsException if there is no such trip");
        TramLines x = line();
        for (int trip : Check.outside(0, 2)) {
            Check.noSuchIndex("startLate(" + trip + ", 5)", () -> x.startLate(trip, 5));
            Check.noSuchIndex("startLate(" + trip + ", 12)", () -> x.startLate(trip, 12));
        }
        Check.noSuchIndex("without trips", () -> new TramLines().startLate(0, 5));
    }

    private static void badLateStart() {
        Check.sentence("startLate throws IllegalArgumentException if the stop does not lie between its first and last "
                + "stop, trips cannot turn there, or the departure would be greater than 1439");
        TramLines x = line();
        x.addTrip(3, 6, 0);
        x.addTrip(6, 3, 0);
        int[] wrong = {3, 6, 2, 7, 0, 11, -1, 12, Integer.MIN_VALUE, Integer.MAX_VALUE};
        for (int stop : wrong) {
            Check.badArgument("up at " + stop, () -> x.startLate(3, stop));
            Check.badArgument("down at " + stop, () -> x.startLate(4, stop));
        }
        x.setTurn(4, false);
        Check.badArgument("up, no turn at 4", () -> x.startLate(3, 4));
        Check.badArgument("down, no turn at 4", () -> x.startLate(4, 4));
        x.addTrip(0, 11, 1437);
        Check.badArgument("at 1440", () -> x.startLate(5, 1));
        x.addTrip(0, 11, 1436);
        Check.due("at 1439", x.startLate(6, 1), 3);
        Check.due("its departure", x.trip(6, 2), 1439);
        Check.badArgument("at 1442", () -> x.startLate(6, 2));
        x.addTrip(11, 0, 1439);
        Check.badArgument("down at 1442", () -> x.startLate(7, 10));
        Check.due("turnShort has no such end", x.turnShort(7, 10), 30);
    }

    private static void dueLeast(String what, TramLines x, int want) {
        Check.due(what + " by waiting", x.leastVehicles(true), want);
        Check.due(what + " by matching", x.leastVehicles(false), want);
    }

    private static void wholePairings() {
        Check.sentence("By matching: it is the number of active trips minus the greatest number of pairs of a pairing.");
        TramLines x = new TramLines();
        x.addTrip(0, 11, 0);
        dueLeast("of one", x, 1);
        x.addTrip(0, 11, 0);
        dueLeast("of two that cannot follow one another", x, 2);
        x.addTrip(11, 0, 35);
        dueLeast("the third one behind one of them alone", x, 2);
        x.addTrip(11, 0, 40);
        dueLeast("two pairs", x, 2);
        x.cancel(2, true);
        dueLeast("without a cancelled second one", x, 2);
        x.cancel(0, true);
        dueLeast("without a cancelled first one", x, 1);
        TramLines y = new TramLines();
        y.setTurn(1, true);
        for (int trip = 0; trip < 30; trip++) {
            y.addTrip(trip % 2, 1 - trip % 2, 5 * trip);
        }
        dueLeast("thirty in one chain", y, 1);
        y.set(0, 3);
        dueLeast("thirty in three", y, 3);
        y.set(0, 20);
        y.addVehicle(0);
        y.give(0, 0);
        dueLeast("vehicles and duties are no matter", y, 5);
        TramLines z = new TramLines();
        for (int trip = 0; trip < 30; trip++) {
            z.addTrip(trip % 2 == 0 ? 0 : 11, trip % 2 == 0 ? 11 : 0, 0);
        }
        dueLeast("thirty at the same minute", z, 30);
    }

    /** The trips are added in another order than that of their departures. */
    private static void orderOfWaiting() {
        Check.sentence("By waiting: the active trips are gone through in the order of their departures, and of their "
                + "numbers among equal ones; each one takes the tram that has been waiting longest at its first stop");
        TramLines x = new TramLines();
        x.addTrip(0, 11, 90);
        x.addTrip(0, 11, 75);
        x.addTrip(11, 0, 40);
        x.addTrip(11, 0, 50);
        x.addTrip(0, 11, 0);
        x.addTrip(0, 11, 10);
        dueLeast("in the order of the departures", x, 2);
        x.setTurn(5, true);
        x.addTrip(0, 5, 16);
        x.addTrip(5, 11, 33);
        dueLeast("a tram of its own at an inner stop", x, 3);
        TramLines y = new TramLines();
        y.addTrip(0, 11, 30);
        y.addTrip(0, 11, 10);
        y.addTrip(0, 11, 20);
        y.addTrip(11, 0, 45);
        y.addTrip(11, 0, 55);
        y.addTrip(11, 0, 65);
        dueLeast("the one that has been waiting longest", y, 3);
        y.addTrip(11, 0, 65);
        dueLeast("none is left at the same minute", y, 4);
    }

    private static void turnTimeOfWaiting() {
        Check.sentence("of those that have been there for at least the turn time, or a new one if there is none");
        TramLines x = new TramLines();
        x.addTrip(0, 11, 0);
        x.addTrip(11, 0, 35);
        dueLeast("just the turn time", x, 1);
        x.set(0, 3);
        dueLeast("a minute less", x, 2);
        x.set(0, 0);
        x.addTrip(0, 11, 68);
        dueLeast("no turn time", x, 1);
        x.set(0, 1);
        dueLeast("a minute of turn time", x, 2);
        x.set(0, 20);
        x.addTrip(11, 0, 53);
        dueLeast("the greatest turn time", x, 3);
    }

    private static void noTripsNoVehicles() {
        Check.sentence("leastVehicles returns the least number of vehicles (without active trips)");
        TramLines x = new TramLines();
        dueLeast("without trips", x, 0);
        x.addTrip(0, 11, 0);
        x.cancel(0, true);
        dueLeast("without active trips", x, 0);
    }

    private static void costsOfPairings() {
        Check.sentence("a price for each active trip that is not the second one of a pair, plus, for each pair, the "
                + "minutes from the planned arrival of the first one to the planned departure of the second one");
        TramLines x = new TramLines();
        x.addTrip(0, 11, 0);
        Check.due("of one trip", x.leastCost(7), 7);
        x.addTrip(11, 0, 43);
        Check.due("10 minutes, for 9 each", x.leastCost(9), 18);
        Check.due("10 minutes, for 10 each", x.leastCost(10), 20);
        Check.due("10 minutes, for 11 each", x.leastCost(11), 21);
        x.cancel(0, true);
        Check.due("the second one alone", x.leastCost(11), 11);
        x.cancel(1, true);
        Check.due("none of them", x.leastCost(11), 0);
    }

    private static void leastCosts() {
        Check.sentence("leastCost returns the least cost.");
        TramLines x = new TramLines();
        x.addTrip(0, 11, 0);
        x.addTrip(0, 11, 10);
        x.addTrip(11, 0, 45);
        x.addTrip(11, 0, 35);
        Check.due("two pairs", x.leastCost(100), 200 + 4);
        x.set(0, 3);
        Check.due("one pair, of two minutes", x.leastCost(1), 4);
        Check.due("one pair, the nearer one or that of both", x.leastCost(100), 300 + 12);
        x.set(0, 0);
        x.addTrip(11, 0, 43);
        Check.due("the nearest ones", x.leastCost(1000), 3000 + 2 + 0);
        TramLines y = new TramLines();
        for (int trip = 0; trip < 30; trip++) {
            y.addTrip(0, 11, 1439);
        }
        Check.due("thirty for nothing", y.leastCost(0), 0);
        Check.due("thirty for the greatest price", y.leastCost(1000), 30000);
        TramLines z = new TramLines();
        z.addTrip(0, 11, 0);
        z.addTrip(11, 0, 1033);
        Check.due("just the greatest price", z.leastCost(1000), 2000);
        z.addTrip(11, 0, 1032);
        Check.due("a minute less than that", z.leastCost(1000), 2999);
    }

    /** The numbers of the trips are in another order than their departures. */
    private static void costsInAnyOrder() {
        Check.sentence("leastCost returns the least cost. (of trips in any order)");
        TramLines x = new TramLines();
        x.addTrip(11, 0, 45);
        x.addTrip(0, 11, 0);
        Check.due("the second one before the first one", x.leastCost(100), 112);
        x.cancel(1, true);
        x.addTrip(11, 0, 34);
        x.addTrip(0, 11, 1);
        Check.due("the last one before the first one", x.leastCost(100), 200 + 11);
        x.cancel(1, false);
        Check.due("two for one", x.leastCost(100), 300 + 11);
        x.set(0, 0);
        Check.due("the dearer pair for the sake of the other one", x.leastCost(100), 200 + 12 + 0);
        x.addTrip(11, 0, 33);
        Check.due("the cheapest ones", x.leastCost(100), 300 + 0 + 0);
        x.cancel(0, true);
        x.cancel(2, true);
        Check.due("the only one for the trip 4", x.leastCost(100), 200 + 0);
        x.cancel(1, true);
        Check.due("too late for the trip 4", x.leastCost(100), 200);
    }

    private static void thirtyTrips() {
        Check.sentence("At most 30 trips are kept (of which one can follow another one)");
        TramLines x = new TramLines();
        for (int trip = 0; trip < 29; trip++) {
            x.addTrip(11, 0, 100 + trip);
        }
        x.addTrip(0, 11, 0);
        Check.due("the next one of the last one", x.nextTrip(29), 0);
        Check.noElement("none for the first one", () -> x.nextTrip(0));
        Check.due("the least cost", x.leastCost(1000), 29 * 1000 + 67);
        dueLeast("the least number", x, 29);
        x.cancel(0, true);
        x.cancel(1, true);
        Check.due("the next one then", x.nextTrip(29), 2);
        Check.due("the least cost then", x.leastCost(70), 27 * 70 + 69);
        x.addVehicle(0);
        Check.due("relink", x.relink(), 26);
        Check.due("the last one in a duty", x.trip(29, 6), 0);
    }

    private static void priceOutOfRange() {
        Check.sentence("leastCost throws IllegalArgumentException if the price is out of range");
        TramLines x = line();
        for (int price : Check.outside(0, 1000)) {
            Check.badArgument("leastCost(" + price + ")", () -> x.leastCost(price));
            Check.badArgument("without trips leastCost(" + price + ")", () -> new TramLines().leastCost(price));
        }
        Check.due("the least price", x.leastCost(0), 0);
        Check.due("the greatest price", x.leastCost(1000), 1004);
    }

    private static void soonestAndLowest() {
        Check.sentence("nextTrip returns the active trip with the earliest departure among those that can follow it, the "
                + "lowest one of several.");
        TramLines x = new TramLines();
        x.addTrip(11, 0, 40);
        x.addTrip(11, 0, 35);
        x.addTrip(11, 0, 34);
        x.addTrip(0, 11, 0);
        x.addTrip(11, 0, 35);
        x.addTrip(0, 11, 35);
        Check.due("just the turn time, the lowest one", x.nextTrip(3), 1);
        x.cancel(1, true);
        Check.due("an active one", x.nextTrip(3), 4);
        x.cancel(4, true);
        Check.due("the next later one", x.nextTrip(3), 0);
        x.set(0, 1);
        Check.due("with a shorter turn time", x.nextTrip(3), 2);
        x.addVehicle(0);
        x.giveRound(3, 2, 0);
        Check.due("one in a duty", x.nextTrip(3), 2);
    }

    private static void nextOfCancelledTrip() {
        Check.sentence("Short turns, late starts and nextTrip are possible for cancelled trips, too. (nextTrip)");
        TramLines x = new TramLines();
        x.addTrip(0, 11, 0);
        x.addTrip(11, 0, 35);
        x.cancel(0, true);
        Check.due("of a cancelled one", x.nextTrip(0), 1);
        x.cancel(1, true);
        Check.noElement("not a cancelled one", () -> x.nextTrip(0));
    }

    private static void noSuchTripBefore() {
        Check.sentence("nextTrip throws IndexOutOfBoundsException if there is no such trip");
        TramLines x = line();
        for (int trip : Check.outside(0, 2)) {
            Check.noSuchIndex("nextTrip(" + trip + ")", () -> x.nextTrip(trip));
        }
        Check.noSuchIndex("without trips", () -> new TramLines().nextTrip(0));
    }

    private static void noNextTrip() {
        Check.sentence("nextTrip throws NoSuchElementException if there is none");
        TramLines x = new TramLines();
        x.addTrip(0, 11, 0);
        Check.noElement("alone", () -> x.nextTrip(0));
        x.addTrip(11, 0, 34);
        Check.noElement("a minute too early", () -> x.nextTrip(0));
        x.addTrip(0, 11, 60);
        Check.noElement("from another stop", () -> x.nextTrip(0));
        x.addTrip(11, 0, 35);
        Check.due("just in time", x.nextTrip(0), 3);
        Check.noElement("behind the latest one", () -> x.nextTrip(2));
    }

    private static void dutiesEmptied() {
        Check.sentence("To relink means to empty all duties");
        TramLines x = line();
        x.take(0);
        x.take(0);
        x.take(0);
        x.give(2, 1);
        x.give(0, 0);
        x.cancel(0, true);
        Check.due("relink", x.relink(), 1);
        dueDuty("of the one in front", x, 1, 2);
        dueDuty("of the one behind", x, 0);
        Check.due("one that begins elsewhere", x.trip(1, 6), -1);
        x.cancel(2, true);
        x.cancel(1, true);
        Check.due("of no active trip", x.relink(), 0);
        Check.due("no duty", x.count(4), 0);
    }

    private static void withDutyFirst() {
        Check.sentence("each trip is given to the first vehicle in this order to which it can be given: vehicles with a "
                + "duty");
        TramLines x = new TramLines();
        x.addVehicle(0);
        x.addVehicle(0);
        x.addTrip(0, 11, 0);
        x.addTrip(11, 0, 35);
        x.addTrip(0, 11, 70);
        Check.due("relink", x.relink(), 0);
        dueDuty("just the turn time", x, 1, 0, 1, 2);
        x.addTrip(0, 11, 69);
        Check.due("relink with one that comes a minute too early", x.relink(), 0);
        dueDuty("an empty one for it", x, 0, 3);
        dueDuty("the other one", x, 1, 0, 1, 2);
    }

    private static void earliestArrivalFirst() {
        Check.sentence("those whose latest trip arrived earliest first");
        TramLines x = new TramLines();
        x.setTurn(5, true);
        x.addVehicle(0);
        x.addVehicle(1);
        x.addTrip(0, 5, 0);
        x.addTrip(11, 5, 0);
        x.addTrip(5, 0, 30);
        x.addTrip(5, 11, 31);
        Check.due("relink", x.relink(), 0);
        dueDuty("arrived at 15", x, 0, 0, 2);
        dueDuty("arrived at 18", x, 1, 1, 3);
        x.setSection(0, 7, 0);
        Check.due("relink with a longer section", x.relink(), 0);
        dueDuty("arrived at 19", x, 0, 0, 3);
        dueDuty("arrived at 18 again", x, 1, 1, 2);
    }

    private static void lowestNumberOfSeveral() {
        Check.sentence("and of several the one with the lowest number");
        TramLines x = new TramLines();
        x.addVehicle(0);
        x.addVehicle(0);
        x.addVehicle(0);
        for (int trip = 0; trip < 3; trip++) {
            x.addTrip(0, 11, 0);
        }
        for (int trip = 0; trip < 3; trip++) {
            x.addTrip(11, 0, 40);
        }
        Check.due("relink", x.relink(), 0);
        dueDuty("of 0", x, 0, 2, 3);
        dueDuty("of 1", x, 1, 1, 4);
        dueDuty("of 2", x, 2, 0, 5);
    }

    private static void frontOfTheRow() {
        Check.sentence("then vehicles without a duty whose home is at the first stop of the trip, in the order of the row "
                + "of the depot, the front first");
        TramLines x = new TramLines();
        x.addVehicle(0);
        x.addVehicle(1);
        x.addVehicle(0);
        x.addVehicle(1);
        x.addTrip(11, 0, 5);
        x.addTrip(0, 11, 5);
        x.addTrip(0, 11, 5);
        x.addTrip(11, 0, 5);
        Check.due("relink", x.relink(), 0);
        dueDuty("the front one at 0", x, 2, 1);
        dueDuty("the one behind it", x, 0, 2);
        dueDuty("the front one at 11", x, 3, 0);
        dueDuty("the one behind that", x, 1, 3);
    }

    private static void tripsLeft() {
        Check.sentence("Trips for which there is none stay without a vehicle.");
        TramLines x = new TramLines();
        x.addVehicle(0);
        x.addTrip(0, 11, 0);
        x.addTrip(0, 11, 0);
        x.addTrip(11, 0, 34);
        x.addTrip(11, 0, 35);
        x.relink();
        int[] vehicles = {0, -1, -1, 0};
        for (int trip = 0; trip < 4; trip++) {
            Check.due("vehicle of " + trip, x.trip(trip, 6), vehicles[trip]);
            Check.due("still active " + trip, x.trip(trip, 5), 0);
        }
    }

    private static void numberOfTripsLeft() {
        Check.sentence("relink returns the number of active trips that have no vehicle then.");
        TramLines x = new TramLines();
        Check.due("without trips", x.relink(), 0);
        for (int trip = 0; trip < 30; trip++) {
            x.addTrip(0, 11, 0);
        }
        Check.due("without vehicles", x.relink(), 30);
        for (int vehicle = 0; vehicle < 10; vehicle++) {
            x.addVehicle(0);
        }
        Check.due("ten vehicles", x.relink(), 20);
        Check.due("the trip 9", x.trip(9, 6), 0);
        Check.due("the trip 10", x.trip(10, 6), -1);
        x.cancel(29, true);
        Check.due("without a cancelled one", x.relink(), 19);
        TramLines y = new TramLines();
        y.setTurn(1, true);
        y.addVehicle(0);
        for (int trip = 0; trip < 30; trip++) {
            y.addTrip(trip % 2, 1 - trip % 2, 5 * trip);
        }
        Check.due("thirty for one vehicle", y.relink(), 0);
        Check.due("all in its duty", y.vehicle(0, 1), 30);
    }

    private static void plannedArrivals() {
        Check.sentence("In relinking, the arrivals are the planned ones.");
        TramLines x = new TramLines();
        x.setTurn(5, true);
        x.addVehicle(0);
        x.addVehicle(1);
        x.addTrip(0, 5, 0);
        x.addTrip(11, 5, 0);
        x.addTrip(5, 0, 30);
        x.block(0, 0, 20);
        Check.due("relink", x.relink(), 0);
        Check.due("the one that is planned to arrive first", x.trip(2, 6), 0);
        Check.due("arrives later", x.actual(0, 5, false), 36);
        x.block(4, 0, 1000);
        Check.due("relink in spite of a long block", x.relink(), 0);
    }
}
