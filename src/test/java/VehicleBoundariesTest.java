/** The boundary cases of "Vehicles", "Depots" and "Links" and of the promises 14 to 23, a test for each sentence. */
public final class VehicleBoundariesTest {

    public static void main(String[] args) {
        mostVehicles();
        homes();
        oneDutyForATrip();
        latestInFront();
        equalDepartures();
        boxedIn();
        turnTimeBetween();
        soundDuties();
        emptyDuties();
        placeInDuty();
        reasonCancelled();
        reasonInDuty();
        reasonSameMinute();
        reasonBefore();
        reasonBehind();
        reasonHome();
        firstReasonOfATrip();
        roundReasonCancelledOrSame();
        roundReasonInDuty();
        roundReasonSecond();
        roundReasonSameMinute();
        roundReasonBefore();
        roundReasonBehind();
        roundReasonHome();
        minuteOfSecondOne();
        placeOfRound();
        noSuchDepotToAdd();
        fullVehicles();
        positionOfTrip();
        noSuchTripOrVehicle();
        refusedGive();
        positionOfRound();
        noSuchTripOrVehicleForRound();
        refusedRound();
        latestReason();
        noReason();
        reasonOrZero();
        noSuchTripOrVehicleToAsk();
        lastTripTaken();
        noSuchVehicleToTake();
        noDutyToTake();
        minuteOrLater();
        changedVehicles();
        noSuchVehicleToExchange();
        sameVehicle();
        unsoundExchange();
        noSuchVehicleOfDuty();
        noSuchPosition();
        numbersOfVehicle();
        noSuchVehicleToNumber();
        noSuchNumberOfVehicle();
        noSuchDepotToLeave();
        noSuchIndexOfLeaving();
        Check.finish();
    }

    /** 0: 0-11@0 (33), 1: 11-0@35 (68), 2: 0-11@70 (103), 3: 11-0@105 (138); vehicles 0 and 1 at 0, 2 at 11. */
    private static TramLines line() {
        TramLines x = new TramLines();
        x.addTrip(0, 11, 0);
        x.addTrip(11, 0, 35);
        x.addTrip(0, 11, 70);
        x.addTrip(11, 0, 105);
        x.addVehicle(0);
        x.addVehicle(0);
        x.addVehicle(1);
        return x;
    }

    private static void dueDuty(String what, TramLines x, int vehicle, int... trips) {
        Check.due(what + " length", x.vehicle(vehicle, 1), trips.length);
        for (int position = 0; position < trips.length; position++) {
            Check.due(what + " at " + position, x.duty(vehicle, position), trips[position]);
        }
    }

    private static void refused(String what, TramLines x, int trip, int vehicle, int reason) {
        int given = x.count(2);
        Check.due(what + " would be refused", x.wouldRefuse(trip, vehicle), reason);
        Check.notSupported(what, () -> x.give(trip, vehicle));
        Check.due(what + " reason", x.refusal(), reason);
        Check.due(what + " gives nothing", x.count(2), given);
    }

    private static void refusedRound(String what, TramLines x, int first, int second, int vehicle, int reason) {
        int given = x.count(2);
        Check.notSupported(what, () -> x.giveRound(first, second, vehicle));
        Check.due(what + " reason", x.refusal(), reason);
        Check.due(what + " gives nothing", x.count(2), given);
    }

    private static void mostVehicles() {
        Check.sentence("At most 10 vehicles are kept, numbered from 0.");
        TramLines x = new TramLines();
        for (int vehicle = 0; vehicle < 10; vehicle++) {
            Check.due("vehicle " + vehicle, x.addVehicle(vehicle % 2), vehicle);
        }
        Check.badState("one more in depot 0", () -> x.addVehicle(0));
        Check.badState("one more in depot 1", () -> x.addVehicle(1));
        Check.due("the first one", x.vehicle(0, 0), 0);
        Check.due("the last one", x.vehicle(9, 0), 1);
        Check.due("their number", x.count(3), 10);
    }

    private static void homes() {
        Check.sentence("Each has a home, depot 0 at stop 0 or depot 1 at stop 11");
        TramLines x = line();
        Check.due("home of 0", x.vehicle(0, 0), 0);
        Check.due("stop of 0", x.vehicle(0, 6), 0);
        Check.due("home of 2", x.vehicle(2, 0), 1);
        Check.due("stop of 2", x.vehicle(2, 6), 11);
        Check.due("from 0 for 0", x.wouldRefuse(0, 0), 0);
        Check.due("from 11 for 0", x.wouldRefuse(1, 0), 6);
        Check.due("from 0 for 2", x.wouldRefuse(0, 2), 6);
        Check.due("from 11 for 2", x.wouldRefuse(1, 2), 0);
    }

    private static void oneDutyForATrip() {
        Check.sentence("No trip is in two duties or twice in one.");
        TramLines x = line();
        x.give(0, 0);
        refused("twice in one", x, 0, 0, 2);
        refused("in two", x, 0, 1, 2);
        refusedRound("as a first one in two", x, 0, 1, 1, 2);
        x.give(1, 0);
        refusedRound("as a second one twice", x, 2, 1, 0, 2);
        dueDuty("in the end", x, 0, 0, 1);
        dueDuty("of the other one", x, 1);
    }

    private static void latestInFront() {
        Check.sentence("The vehicles of a depot are in a row, one behind the other, the latest one that was added in "
                + "front.");
        TramLines x = new TramLines();
        x.addVehicle(1);
        Check.due("alone", x.vehicle(0, 4), 0);
        x.addVehicle(0);
        Check.due("not moved by one of the other depot", x.vehicle(0, 4), 0);
        x.addVehicle(1);
        Check.due("behind a new one", x.vehicle(0, 4), 1);
        Check.due("the new one", x.vehicle(2, 4), 0);
        for (int vehicle = 3; vehicle < 10; vehicle++) {
            x.addVehicle(1);
        }
        Check.due("behind all", x.vehicle(0, 4), 8);
        Check.due("in front of all", x.vehicle(9, 4), 0);
        Check.due("alone in its depot", x.vehicle(1, 4), 0);
    }

    /** Trips up at these minutes, each given to a vehicle of depot 0 with its number, but for -1. */
    private static TramLines firstTrips(int... minutes) {
        TramLines x = new TramLines();
        for (int number = 0; number < minutes.length; number++) {
            x.addVehicle(0);
            x.addTrip(0, 11, Math.max(0, minutes[number]));
            if (minutes[number] >= 0) {
                x.give(number, number);
            }
        }
        return x;
    }

    private static void equalDepartures() {
        Check.sentence("a vehicle with a duty leaves its depot when its first trip is planned to depart, and those with "
                + "equal departures leave in the order of the row, the front first.");
        TramLines x = firstTrips(7, 8, 7, -1, 6, 7);
        int[] order = {4, 5, 2, 0, 1};
        for (int index = 0; index < 5; index++) {
            Check.due("leaving(0, " + index + ")", x.leaving(0, index), order[index]);
        }
        Check.noElement("the one without a duty", () -> x.leaving(0, 5));
        TramLines y = firstTrips(0, 0, 0, 0, 0, 0, 0, 0, 0, 0);
        for (int index = 0; index < 10; index++) {
            Check.due("ten at the same minute", y.leaving(0, index), 9 - index);
        }
    }

    private static void boxedIn() {
        Check.sentence("A vehicle with a duty is boxed in if a vehicle before it in the row has no duty, or a first trip "
                + "that is planned to depart later than its own.");
        Check.due("alone", firstTrips(7).vehicle(0, 5), 0);
        Check.due("behind one without a duty", firstTrips(7, -1).vehicle(0, 5), 1);
        Check.due("behind a later one", firstTrips(7, 8).vehicle(0, 5), 1);
        Check.due("behind one at the same minute", firstTrips(7, 7).vehicle(0, 5), 0);
        Check.due("behind an earlier one", firstTrips(7, 6).vehicle(0, 5), 0);
        Check.due("behind an earlier one that is behind a later one", firstTrips(7, 6, 8).vehicle(0, 5), 1);
        Check.due("behind an earlier one and one without a duty", firstTrips(7, -1, 6).vehicle(0, 5), 1);
        Check.due("before a later one", firstTrips(8, 7).vehicle(1, 5), 0);
        Check.due("before one without a duty", firstTrips(-1, 7).vehicle(1, 5), 0);
        Check.due("without a duty, behind one without a duty", firstTrips(-1, -1).vehicle(0, 5), 0);
        Check.due("without a duty, behind a later one", firstTrips(-1, 7).vehicle(0, 5), 0);
        TramLines x = firstTrips(7);
        x.addVehicle(1);
        Check.due("one without a duty in the other depot", x.vehicle(0, 5), 0);
        x.addTrip(11, 0, 8);
        x.give(1, 1);
        Check.due("a later one in the other depot", x.vehicle(0, 5), 0);
        TramLines y = firstTrips(50, 10);
        y.addTrip(11, 0, 60);
        y.give(2, 1);
        Check.due("later trips of the one before do not count", y.vehicle(0, 5), 0);
    }

    private static void turnTimeBetween() {
        Check.sentence("A trip can follow another one in a duty if it begins at the stop where that one ends, and is "
                + "planned to depart at least the turn time after that one is planned to arrive.");
        TramLines x = line();
        x.setTurn(10, true);
        x.addTrip(11, 0, 34);
        x.addTrip(10, 0, 35);
        x.addTrip(0, 11, 35);
        x.give(0, 0);
        Check.due("just the turn time", x.wouldRefuse(1, 0), 0);
        Check.due("a minute less", x.wouldRefuse(4, 0), 4);
        Check.due("at the stop before", x.wouldRefuse(5, 0), 4);
        Check.due("at the other end", x.wouldRefuse(6, 0), 4);
        x.set(0, 0);
        x.addTrip(11, 0, 33);
        x.addTrip(11, 0, 32);
        Check.due("no turn time", x.wouldRefuse(7, 0), 0);
        Check.due("a minute before it arrives", x.wouldRefuse(8, 0), 4);
        x.set(0, 20);
        x.addTrip(11, 0, 53);
        x.addTrip(11, 0, 52);
        Check.due("the greatest turn time", x.wouldRefuse(9, 0), 0);
        Check.due("a minute less than that", x.wouldRefuse(10, 0), 4);
        Check.due("far behind", x.wouldRefuse(3, 0), 0);
    }

    private static void soundDuties() {
        Check.sentence("A duty is sound if its first trip begins at the stop of the home, and each other trip can follow "
                + "the one before; all duties are sound.");
        TramLines x = line();
        x.giveRound(0, 1, 0);
        x.giveRound(2, 3, 0);
        Check.badState("the last pair would be too close", () -> x.set(0, 3));
        Check.due("just sound", x.set(0, 2), 2);
        Check.badState("a first trip from elsewhere", () -> x.exchange(0, 2, 0));
        Check.due("a first trip from there", x.exchange(0, 2, 105), 1);
    }

    private static void emptyDuties() {
        Check.sentence("An empty duty is sound.");
        TramLines x = line();
        Check.due("the greatest turn time", x.set(0, 20), 2);
        Check.due("the longest section", x.setSection(0, 9, 0), 30);
        Check.due("two empty ones", x.exchange(0, 2, 0), 0);
        x.giveRound(0, 3, 0);
        Check.due("an empty one for a whole one", x.exchange(0, 1, 0), 2);
        Check.due("one is empty then", x.vehicle(0, 1), 0);
    }

    private static void placeInDuty() {
        Check.sentence("To give a trip to a vehicle means to put it into the duty behind all trips that are planned to "
                + "depart before it.");
        TramLines x = new TramLines();
        x.setTurn(1, true);
        x.addVehicle(0);
        int[] minutes = {0, 10, 20, 30, 40, 50};
        for (int trip = 0; trip < 6; trip++) {
            x.addTrip(trip % 2, 1 - trip % 2, minutes[trip]);
        }
        Check.due("into an empty duty", x.give(2, 0), 0);
        Check.due("behind", x.give(3, 0), 1);
        Check.due("behind both", x.giveRound(4, 5, 0), 2);
        Check.due("before all", x.giveRound(0, 1, 0), 0);
        dueDuty("in the order of the departures", x, 0, 0, 1, 2, 3, 4, 5);
    }

    private static void reasonCancelled() {
        Check.sentence("1, the trip is cancelled");
        TramLines x = line();
        x.cancel(0, true);
        refused("cancelled", x, 0, 0, 1);
        x.cancel(0, false);
        Check.due("active again", x.give(0, 0), 0);
    }

    private static void reasonInDuty() {
        Check.sentence("2, it is in a duty");
        TramLines x = line();
        x.give(1, 2);
        refused("in this duty", x, 1, 2, 2);
        refused("in another one", x, 1, 0, 2);
        x.take(2);
        Check.due("no longer", x.give(1, 2), 0);
    }

    private static void reasonSameMinute() {
        Check.sentence("3, a trip of the duty departs at the same minute");
        TramLines x = line();
        x.addTrip(0, 11, 70);
        x.addTrip(11, 0, 35);
        x.addTrip(0, 11, 0);
        x.giveRound(0, 1, 0);
        x.give(2, 0);
        refused("as the last one", x, 4, 0, 3);
        refused("as the middle one", x, 5, 0, 3);
        refused("as the first one", x, 6, 0, 3);
        Check.due("as one of another duty", x.wouldRefuse(6, 1), 0);
    }

    private static void reasonBefore() {
        Check.sentence("4, it cannot follow the trip before it in the duty");
        TramLines x = line();
        x.addTrip(11, 0, 34);
        x.addTrip(11, 0, 1);
        x.give(0, 0);
        refused("a minute too early", x, 4, 0, 4);
        refused("a minute behind the departure", x, 5, 0, 4);
        refused("from another stop", x, 2, 0, 4);
    }

    private static void reasonBehind() {
        Check.sentence("5, the trip behind it cannot follow it");
        TramLines x = line();
        x.addTrip(0, 11, 1);
        x.addTrip(11, 0, 36);
        x.give(3, 2);
        refused("ends where that one does not begin", x, 1, 2, 5);
        x.take(2);
        x.give(2, 1);
        Check.due("just in time for it, and so not 5", x.wouldRefuse(1, 1), 6);
        refused("ends at another stop", x, 4, 1, 5);
        refused("a minute too late", x, 5, 1, 5);
    }

    private static void reasonHome() {
        Check.sentence("6, it would be the first one of the duty, and does not begin at the stop of the home");
        TramLines x = line();
        refused("from 11 for depot 0", x, 1, 0, 6);
        refused("from 0 for depot 1", x, 0, 2, 6);
        x.give(2, 0);
        refused("before the first one", x, 1, 0, 6);
        Check.due("not of a later one", x.wouldRefuse(3, 0), 0);
        x.setTurn(10, true);
        x.addTrip(10, 11, 0);
        refused("next to the stop of the home", x, 4, 2, 6);
    }

    private static void firstReasonOfATrip() {
        Check.sentence("This is refused for the first of these reasons (a trip)");
        TramLines x = line();
        x.addTrip(11, 0, 0);
        x.addTrip(0, 11, 35);
        x.addTrip(0, 11, 36);
        x.addTrip(0, 11, 75);
        x.give(0, 0);
        x.give(1, 0);
        refused("2 before 3", x, 0, 0, 2);
        refused("3 before 6", x, 4, 0, 3);
        refused("3 before 4", x, 5, 0, 3);
        x.give(2, 0);
        refused("4 before 5", x, 6, 0, 4);
        x.give(3, 2);
        refused("5 before 6", x, 7, 2, 5);
        x.cancel(5, true);
        refused("1 before 3", x, 5, 0, 1);
        x.cancel(7, true);
        refused("1 before 5 and 6", x, 7, 2, 1);
    }

    private static void roundReasonCancelledOrSame() {
        Check.sentence("1, one of them is cancelled, or both are the same");
        TramLines x = line();
        refusedRound("both the same", x, 0, 0, 0, 1);
        x.cancel(0, true);
        refusedRound("the first one", x, 0, 1, 0, 1);
        x.cancel(0, false);
        x.cancel(1, true);
        refusedRound("the second one", x, 0, 1, 0, 1);
        x.give(0, 0);
        refusedRound("before 2", x, 0, 1, 0, 1);
        refusedRound("both the same before 2", x, 0, 0, 0, 1);
        refusedRound("before 7", x, 2, 1, 1, 1);
        x.cancel(1, false);
        Check.due("active again", x.giveRound(2, 3, 1), 0);
    }

    private static void roundReasonInDuty() {
        Check.sentence("2, one of them is in a duty");
        TramLines x = line();
        x.give(0, 0);
        refusedRound("the first one", x, 0, 1, 0, 2);
        refusedRound("the first one for another vehicle", x, 0, 1, 1, 2);
        refusedRound("before 7", x, 0, 2, 1, 2);
        x.give(1, 2);
        refusedRound("the second one", x, 2, 1, 1, 2);
        refusedRound("both", x, 0, 1, 1, 2);
    }

    private static void roundReasonSecond() {
        Check.sentence("7, the second one cannot follow the first one");
        TramLines x = line();
        x.addTrip(11, 0, 34);
        refusedRound("a minute too early", x, 0, 4, 0, 7);
        refusedRound("from another stop", x, 0, 2, 0, 7);
        refusedRound("in the other order, before 6", x, 1, 0, 0, 7);
        x.give(0, 0);
        x.addTrip(0, 11, 0);
        refusedRound("before 3", x, 5, 4, 0, 7);
        Check.due("just in time", x.giveRound(5, 1, 1), 0);
    }

    private static void roundReasonSameMinute() {
        Check.sentence("3, a trip of the duty departs at the same minute as the first one");
        TramLines x = line();
        x.addTrip(0, 11, 0);
        x.addTrip(11, 0, 0);
        x.addTrip(0, 11, 35);
        x.giveRound(0, 1, 0);
        refusedRound("as the first one of the duty", x, 4, 3, 0, 3);
        refusedRound("before 6", x, 5, 2, 0, 3);
        refusedRound("before 4", x, 6, 3, 0, 3);
    }

    private static void roundReasonBefore() {
        Check.sentence("4, the first one cannot follow the trip before it in the duty");
        TramLines x = line();
        x.addTrip(11, 0, 34);
        x.addTrip(0, 11, 40);
        x.give(0, 0);
        refusedRound("a minute too early", x, 4, 2, 0, 4);
        refusedRound("from another stop", x, 5, 3, 0, 4);
        x.addTrip(11, 0, 72);
        x.give(6, 0);
        refusedRound("before 5", x, 4, 2, 0, 4);
    }

    private static void roundReasonBehind() {
        Check.sentence("5, the trip behind them cannot follow the second one");
        TramLines x = line();
        x.addTrip(0, 11, 1);
        x.addTrip(11, 0, 36);
        x.give(2, 0);
        refusedRound("a minute too late", x, 4, 5, 0, 5);
        Check.due("in time", x.giveRound(0, 1, 0), 0);
        TramLines y = line();
        y.give(3, 2);
        refusedRound("from another stop, before 6", y, 0, 1, 2, 5);
    }

    private static void roundReasonHome() {
        Check.sentence("6, the first one would be the first one of the duty, and does not begin at the stop of the home");
        TramLines x = line();
        refusedRound("from 0 for depot 1", x, 0, 1, 2, 6);
        refusedRound("from 11 for depot 0", x, 1, 2, 0, 6);
        Check.due("from 11 for depot 1", x.giveRound(1, 2, 2), 0);
        x.addTrip(0, 11, 140);
        x.addTrip(11, 0, 175);
        x.give(3, 2);
        Check.due("behind others", x.giveRound(4, 5, 2), 3);
    }

    private static void minuteOfSecondOne() {
        Check.sentence("When a round is given, the minute of the second trip is asked by reason 5 alone.");
        TramLines x = line();
        x.addTrip(11, 0, 70);
        x.addTrip(11, 0, 71);
        x.give(2, 0);
        refusedRound("the second one at the minute of the one behind", x, 0, 4, 0, 5);
        refusedRound("the second one behind the one behind", x, 0, 5, 0, 5);
    }

    private static void placeOfRound() {
        Check.sentence("put two trips into the duty, the second one directly behind the first one, behind all trips that "
                + "are planned to depart before the first one");
        TramLines x = new TramLines();
        x.setTurn(1, true);
        x.addVehicle(0);
        for (int trip = 0; trip < 8; trip++) {
            x.addTrip(trip % 2, 1 - trip % 2, 10 * trip);
        }
        Check.due("into an empty duty", x.giveRound(2, 3, 0), 0);
        Check.due("behind", x.giveRound(6, 7, 0), 2);
        Check.due("in between", x.giveRound(4, 5, 0), 2);
        Check.due("before all", x.giveRound(0, 1, 0), 0);
        dueDuty("in the end", x, 0, 0, 1, 2, 3, 4, 5, 6, 7);
        x.addTrip(0, 1, 75);
        x.addTrip(1, 0, 1439);
        Check.due("far behind", x.giveRound(8, 9, 0), 8);
    }

    private static void noSuchDepotToAdd() {
        Check.sentence("addVehicle throws IndexOutOfBoundsException if there is no such depot");
        TramLines x = new TramLines();
        for (int depot : Check.outside(0, 1)) {
            Check.noSuchIndex("depot " + depot, () -> x.addVehicle(depot));
        }
        for (int vehicle = 0; vehicle < 10; vehicle++) {
            x.addVehicle(0);
        }
        for (int depot : Check.outside(0, 1)) {
            Check.noSuchIndex("depot " + depot + " when full", () -> x.addVehicle(depot));
        }
    }

    private static void fullVehicles() {
        Check.sentence("addVehicle throws IllegalStateException if 10 vehicles are kept");
        TramLines x = new TramLines();
        for (int vehicle = 0; vehicle < 9; vehicle++) {
            x.addVehicle(0);
        }
        Check.due("with 9", x.addVehicle(1), 9);
        Check.badState("with 10", () -> x.addVehicle(1));
        x.undo();
        Check.due("with 9 again", x.addVehicle(0), 9);
        Check.badState("with 10 again", () -> x.addVehicle(0));
    }

    private static void positionOfTrip() {
        Check.sentence("give returns the position of the trip in the duty, from 0.");
        TramLines x = new TramLines();
        x.setTurn(1, true);
        x.set(0, 0);
        x.addVehicle(0);
        for (int trip = 0; trip < 30; trip++) {
            x.addTrip(trip % 2, 1 - trip % 2, 3 * trip);
            Check.due("the trip " + trip, x.give(trip, 0), trip);
        }
        Check.due("the last one of thirty", x.duty(0, 29), 29);
        Check.noElement("none behind it", () -> x.duty(0, 30));
    }

    /** Trips and vehicles of which one is not there. */
    private static int[][] noPairs() {
        return new int[][] {{-1, 0}, {4, 0}, {0, -1}, {0, 3}, {4, 3}, {Integer.MIN_VALUE, 0}, {Integer.MAX_VALUE, 0},
            {0, Integer.MIN_VALUE}, {0, Integer.MAX_VALUE}};
    }

    private static void noSuchTripOrVehicle() {
        Check.sentence("give throws IndexOutOfBoundsException if there is no such trip or vehicle");
        TramLines x = line();
        x.cancel(0, true);
        for (int[] pair : noPairs()) {
            Check.noSuchIndex("give(" + pair[0] + ", " + pair[1] + ")", () -> x.give(pair[0], pair[1]));
        }
        Check.noElement("none was refused", x::refusal);
        Check.noSuchIndex("without any", () -> new TramLines().give(0, 0));
    }

    private static void refusedGive() {
        Check.sentence("give throws UnsupportedOperationException if this is refused; the reason is kept for refusal");
        TramLines x = line();
        refused("the first one", x, 1, 0, 6);
        x.give(0, 0);
        refused("another one", x, 2, 0, 4);
        Check.due("kept", x.refusal(), 4);
    }

    private static void positionOfRound() {
        Check.sentence("giveRound returns the position of the first trip in the duty, from 0.");
        TramLines x = new TramLines();
        x.setTurn(1, true);
        x.addVehicle(0);
        for (int trip = 0; trip < 30; trip++) {
            x.addTrip(trip % 2, 1 - trip % 2, 6 * trip);
        }
        for (int trip = 2; trip < 30; trip += 2) {
            Check.due("the round of " + trip, x.giveRound(trip, trip + 1, 0), trip - 2);
        }
        Check.due("the round of 0", x.giveRound(0, 1, 0), 0);
        Check.due("the last trip", x.duty(0, 29), 29);
    }

    private static void noSuchTripOrVehicleForRound() {
        Check.sentence("giveRound throws IndexOutOfBoundsException if there is no such trip or vehicle");
        TramLines x = line();
        for (int[] pair : noPairs()) {
            String of = " " + pair[0] + ", vehicle " + pair[1];
            Check.noSuchIndex("first" + of, () -> x.giveRound(pair[0], 1, pair[1]));
            Check.noSuchIndex("second" + of, () -> x.giveRound(1, pair[0], pair[1]));
            Check.noSuchIndex("both" + of, () -> x.giveRound(pair[0], pair[0], pair[1]));
        }
        Check.noElement("none was refused", x::refusal);
    }

    private static void refusedRound() {
        Check.sentence("giveRound throws UnsupportedOperationException if this is refused; the reason is kept for refusal");
        TramLines x = line();
        refusedRound("the first one", x, 0, 0, 0, 1);
        refusedRound("another one", x, 1, 0, 0, 7);
        x.giveRound(0, 1, 0);
        Check.due("kept", x.refusal(), 7);
        Check.due("nothing of it was given", x.count(2), 2);
    }

    private static void latestReason() {
        Check.sentence("Returns the reason for which the latest call of give or giveRound that was refused was refused.");
        TramLines x = line();
        Check.notSupported("give", () -> x.give(0, 2));
        Check.due("of give", x.refusal(), 6);
        Check.notSupported("giveRound", () -> x.giveRound(0, 2, 0));
        Check.due("of giveRound", x.refusal(), 7);
        x.give(0, 0);
        Check.due("not of one that was not refused", x.refusal(), 7);
        Check.due("would be refused", x.wouldRefuse(0, 0), 2);
        Check.due("not of wouldRefuse", x.refusal(), 7);
        Check.noSuchIndex("no such vehicle", () -> x.give(0, 3));
        Check.due("not of one with a wrong index", x.refusal(), 7);
        Check.notSupported("give again", () -> x.give(2, 0));
        Check.due("of give again", x.refusal(), 4);
    }

    private static void noReason() {
        Check.sentence("refusal throws NoSuchElementException if none was refused");
        TramLines x = line();
        Check.noElement("at first", x::refusal);
        x.give(0, 0);
        x.giveRound(1, 2, 2);
        x.wouldRefuse(0, 0);
        Check.badArgument("exchange", () -> x.exchange(0, 0, 0));
        Check.noElement("behind others", x::refusal);
    }

    private static void reasonOrZero() {
        Check.sentence("wouldRefuse returns the reason, or 0.");
        TramLines x = line();
        Check.due("0", x.wouldRefuse(0, 0), 0);
        Check.due("6", x.wouldRefuse(1, 0), 6);
        x.give(0, 0);
        Check.due("2", x.wouldRefuse(0, 1), 2);
        Check.due("4", x.wouldRefuse(2, 0), 4);
        x.addTrip(0, 11, 0);
        Check.due("3", x.wouldRefuse(4, 0), 3);
        x.cancel(4, true);
        Check.due("1", x.wouldRefuse(4, 0), 1);
        x.give(1, 2);
        x.addTrip(0, 11, 1);
        Check.due("5", x.wouldRefuse(5, 2), 5);
        Check.due("nothing was given", x.count(2), 2);
    }

    private static void noSuchTripOrVehicleToAsk() {
        Check.sentence("wouldRefuse throws IndexOutOfBoundsException if there is no such trip or vehicle");
        TramLines x = line();
        for (int[] pair : noPairs()) {
            Check.noSuchIndex("wouldRefuse(" + pair[0] + ", " + pair[1] + ")", () -> x.wouldRefuse(pair[0], pair[1]));
        }
    }

    private static void lastTripTaken() {
        Check.sentence("Takes a vehicle the last trip of its duty.");
        TramLines x = line();
        x.giveRound(0, 1, 0);
        x.giveRound(2, 3, 0);
        for (int trip = 3; trip >= 0; trip--) {
            Check.due("take(0)", x.take(0), trip);
            Check.due("its vehicle", x.trip(trip, 6), -1);
            Check.due("left", x.vehicle(0, 1), trip);
        }
    }

    private static void noSuchVehicleToTake() {
        Check.sentence("take throws IndexOutOfBoundsException if there is no such vehicle");
        TramLines x = line();
        for (int vehicle : Check.outside(0, 2)) {
            Check.noSuchIndex("take(" + vehicle + ")", () -> x.take(vehicle));
        }
        Check.noSuchIndex("without vehicles", () -> new TramLines().take(0));
    }

    private static void noDutyToTake() {
        Check.sentence("take throws NoSuchElementException if it has no duty");
        TramLines x = line();
        x.give(0, 0);
        Check.noElement("never given one", () -> x.take(1));
        Check.due("the only one", x.take(0), 0);
        Check.noElement("taken all", () -> x.take(0));
    }

    /** Vehicle 0 has 0, 1, 2, 3 (at 0, 40, 80, 120), and vehicle 1 has 4, 5, 6, 7 (likewise). */
    private static TramLines twoDuties() {
        TramLines x = new TramLines();
        for (int trip = 0; trip < 8; trip++) {
            x.addTrip(trip % 2 == 0 ? 0 : 11, trip % 2 == 0 ? 11 : 0, 40 * (trip % 4));
        }
        x.addVehicle(0);
        x.addVehicle(0);
        x.addVehicle(1);
        for (int trip = 0; trip < 8; trip++) {
            x.give(trip, trip / 4);
        }
        return x;
    }

    private static void minuteOrLater() {
        Check.sentence("Exchanges the ends of two duties: all trips that are planned to depart at a minute or later.");
        TramLines x = twoDuties();
        Check.due("at the minute of the third ones", x.exchange(0, 1, 80), 4);
        dueDuty("of 0", x, 0, 0, 1, 6, 7);
        dueDuty("of 1", x, 1, 4, 5, 2, 3);
        x.undo();
        Check.due("a minute behind it", x.exchange(0, 1, 81), 2);
        dueDuty("of 0 then", x, 0, 0, 1, 2, 7);
        x.undo();
        Check.due("a minute before it", x.exchange(0, 1, 79), 4);
        x.undo();
        Check.due("at the first minute", x.exchange(0, 1, 0), 8);
        dueDuty("of 0, all", x, 0, 4, 5, 6, 7);
        x.undo();
        Check.due("before the first minute", x.exchange(0, 1, -1), 8);
        x.undo();
        Check.due("a minute behind the first ones", x.exchange(0, 1, 1), 6);
        dueDuty("of 0, all but the first one", x, 0, 0, 5, 6, 7);
    }

    private static void changedVehicles() {
        Check.sentence("exchange returns the number of trips that changed their vehicle.");
        TramLines x = twoDuties();
        Check.due("at the last minute", x.exchange(0, 1, 120), 2);
        Check.due("behind it", x.exchange(0, 1, 121), 0);
        Check.due("at the greatest minute", x.exchange(0, 1, Integer.MAX_VALUE), 0);
        Check.due("at the least minute", x.exchange(0, 1, Integer.MIN_VALUE), 8);
        x.addVehicle(0);
        Check.due("with an empty duty", x.exchange(0, 3, 80), 2);
        Check.due("with an empty duty, the other way", x.exchange(3, 0, 80), 2);
        Check.due("of two empty duties", line().exchange(0, 2, 0), 0);
        Check.due("thirty", thirtyInOne().exchange(1, 0, 0), 30);
    }

    /** Vehicle 0 has all trips that can be kept, and vehicle 1 has none. */
    private static TramLines thirtyInOne() {
        TramLines x = new TramLines();
        x.setTurn(1, true);
        x.addVehicle(0);
        x.addVehicle(0);
        for (int trip = 0; trip < 30; trip++) {
            x.addTrip(trip % 2, 1 - trip % 2, 6 * trip);
            x.give(trip, 0);
        }
        return x;
    }

    private static void noSuchVehicleToExchange() {
        Check.sentence("exchange throws IndexOutOfBoundsException if there is no such vehicle");
        TramLines x = twoDuties();
        for (int vehicle : Check.outside(0, 2)) {
            Check.noSuchIndex("one " + vehicle, () -> x.exchange(vehicle, 0, 0));
            Check.noSuchIndex("other " + vehicle, () -> x.exchange(0, vehicle, 0));
            Check.noSuchIndex("both " + vehicle, () -> x.exchange(vehicle, vehicle, 0));
        }
    }

    private static void sameVehicle() {
        Check.sentence("exchange throws IllegalArgumentException if both are the same");
        TramLines x = twoDuties();
        for (int vehicle = 0; vehicle <= 2; vehicle++) {
            int asked = vehicle;
            Check.badArgument("both " + vehicle, () -> x.exchange(asked, asked, 0));
            Check.badArgument("both " + vehicle + " for nothing", () -> x.exchange(asked, asked, 9999));
        }
    }

    private static void unsoundExchange() {
        Check.sentence("exchange throws IllegalStateException if one of the duties would not be sound then");
        TramLines x = twoDuties();
        Check.badState("the first one of the other home", () -> x.exchange(0, 2, 0));
        Check.badState("likewise the other way", () -> x.exchange(2, 0, 0));
        Check.badState("an end from another stop than the home", () -> x.exchange(2, 0, 80));
        dueDuty("of 0", x, 0, 0, 1, 2, 3);
        Check.due("an end from the stop of the home", x.exchange(0, 2, 120), 1);
        dueDuty("of 2", x, 2, 3);
        TramLines y = line();
        y.addTrip(0, 11, 1);
        y.addTrip(11, 0, 36);
        y.giveRound(0, 1, 0);
        y.giveRound(4, 5, 1);
        Check.badState("a minute too close", () -> y.exchange(0, 1, 35));
        y.set(0, 1);
        Check.due("just the turn time", y.exchange(0, 1, 35), 2);
        dueDuty("one that waits just so long", y, 1, 4, 1);
    }

    private static void noSuchVehicleOfDuty() {
        Check.sentence("duty throws IndexOutOfBoundsException if there is no such vehicle");
        TramLines x = twoDuties();
        for (int vehicle : Check.outside(0, 2)) {
            Check.noSuchIndex("duty(" + vehicle + ", 0)", () -> x.duty(vehicle, 0));
            Check.noSuchIndex("duty(" + vehicle + ", -1)", () -> x.duty(vehicle, -1));
        }
    }

    private static void noSuchPosition() {
        Check.sentence("duty throws NoSuchElementException if there is no such position");
        TramLines x = twoDuties();
        for (int position : Check.outside(0, 3)) {
            Check.noElement("duty(1, " + position + ")", () -> x.duty(1, position));
        }
        for (int position : Check.outside(0, -1)) {
            Check.noElement("of an empty duty " + position, () -> x.duty(2, position));
        }
        Check.due("the first position", x.duty(1, 0), 4);
        Check.due("the last position", x.duty(1, 3), 7);
        x.take(1);
        Check.noElement("a taken one", () -> x.duty(1, 3));
    }

    private static void dueNumbers(String what, TramLines x, int vehicle, int... numbers) {
        for (int number = 0; number <= 6; number++) {
            Check.due(what + " " + number, x.vehicle(vehicle, number), numbers[number]);
        }
    }

    private static void numbersOfVehicle() {
        Check.sentence("0 for its home, 1 for the number of its trips, 2 for the sum of the planned minutes of its trips, "
                + "3 for the sum of the minutes between them, 4 for its place in the row of its depot, 0 for the front, "
                + "5 for 1 if it is boxed in and 0 otherwise, 6 for the stop where its duty ends, or that of its home "
                + "without a duty");
        TramLines x = twoDuties();
        dueNumbers("full", x, 0, 0, 4, 4 * 33, 3 * 7, 1, 0, 0);
        dueNumbers("without a duty at 11", x, 2, 1, 0, 0, 0, 0, 0, 11);
        x.take(0);
        dueNumbers("with three trips", x, 0, 0, 3, 3 * 33, 2 * 7, 1, 0, 11);
        x.take(0);
        x.take(0);
        x.addVehicle(0);
        dueNumbers("with one trip", x, 0, 0, 1, 33, 0, 2, 1, 11);
        x.take(0);
        dueNumbers("without a duty at 0", x, 0, 0, 0, 0, 0, 2, 0, 0);
    }

    private static void noSuchVehicleToNumber() {
        Check.sentence("vehicle throws IndexOutOfBoundsException if there is no such vehicle");
        TramLines x = twoDuties();
        for (int vehicle : Check.outside(0, 2)) {
            Check.noSuchIndex("vehicle(" + vehicle + ", 0)", () -> x.vehicle(vehicle, 0));
            Check.noSuchIndex("vehicle(" + vehicle + ", 7)", () -> x.vehicle(vehicle, 7));
        }
    }

    private static void noSuchNumberOfVehicle() {
        Check.sentence("vehicle throws IllegalArgumentException if what is not from 0 to 6");
        TramLines x = twoDuties();
        for (int what : Check.outside(0, 6)) {
            Check.badArgument("vehicle(2, " + what + ")", () -> x.vehicle(2, what));
        }
    }

    private static void noSuchDepotToLeave() {
        Check.sentence("leaving throws IndexOutOfBoundsException if there is no such depot");
        TramLines x = twoDuties();
        for (int depot : Check.outside(0, 1)) {
            Check.noSuchIndex("leaving(" + depot + ", 0)", () -> x.leaving(depot, 0));
            Check.noSuchIndex("leaving(" + depot + ", -1)", () -> x.leaving(depot, -1));
        }
    }

    private static void noSuchIndexOfLeaving() {
        Check.sentence("leaving throws NoSuchElementException if there is no such index");
        TramLines x = twoDuties();
        for (int index : Check.outside(0, 1)) {
            Check.noElement("leaving(0, " + index + ")", () -> x.leaving(0, index));
        }
        Check.noElement("without a duty", () -> x.leaving(1, 0));
        Check.due("the first one", x.leaving(0, 0), 1);
        Check.due("the last one", x.leaving(0, 1), 0);
        Check.noElement("without vehicles", () -> new TramLines().leaving(0, 0));
    }
}
