/** Promises 14 to 23: vehicles, what is given to them and refused, exchanges, duties and depots. */
public final class VehiclesTest {

    public static void main(String[] args) {
        addedVehicles();
        givenTrips();
        refusedTrips();
        orderOfReasons();
        wrongNumbersForGive();
        givenRounds();
        refusedRounds();
        roundsInTheMiddle();
        keptReason();
        takenTrips();
        exchanges();
        refusedExchanges();
        duties();
        numbersOfVehicles();
        boxedIn();
        leavingVehicles();
        Check.finish();
    }

    private static void dueDuty(String what, TramLines x, int vehicle, int... trips) {
        Check.due(what + " length", x.vehicle(vehicle, 1), trips.length);
        for (int position = 0; position < trips.length; position++) {
            Check.due(what + " at " + position, x.duty(vehicle, position), trips[position]);
        }
        Check.noElement(what + " end", () -> x.duty(vehicle, trips.length));
    }

    private static void addedVehicles() {
        TramLines x = new TramLines();
        Check.noSuchIndex("depot -1", () -> x.addVehicle(-1));
        Check.noSuchIndex("depot 2", () -> x.addVehicle(2));
        for (int number = 0; number < 10; number++) {
            Check.due("vehicle " + number, x.addVehicle(number % 3 == 0 ? 0 : 1), number);
        }
        Check.badState("an eleventh one", () -> x.addVehicle(0));
        Check.noSuchIndex("depot before full", () -> x.addVehicle(2));
        Check.due("ten", x.count(3), 10);
        Check.due("home of 3", x.vehicle(3, 0), 0);
        Check.due("home of 4", x.vehicle(4, 0), 1);
        int[] place = {3, 5, 4, 2, 3, 2, 1, 1, 0, 0};
        for (int number = 0; number < 10; number++) {
            Check.due("place of " + number, x.vehicle(number, 4), place[number]);
        }
        Check.noSuchIndex("vehicle 10", () -> x.vehicle(10, 0));
    }

    /** 0: 0-11@0 (33), 1: 11-0@35 (68), 2: 0-11@70 (103), 3: 11-0@105 (138), 4: 0-11@140; vehicles at 0, 0 and 11. */
    private static TramLines line() {
        TramLines x = new TramLines();
        x.addTrip(0, 11, 0);
        x.addTrip(11, 0, 35);
        x.addTrip(0, 11, 70);
        x.addTrip(11, 0, 105);
        x.addTrip(0, 11, 140);
        x.addVehicle(0);
        x.addVehicle(0);
        x.addVehicle(1);
        return x;
    }

    private static void givenTrips() {
        TramLines x = line();
        Check.due("give(2, 0)", x.give(2, 0), 0);
        Check.due("its vehicle", x.trip(2, 6), 0);
        Check.due("give(3, 0)", x.give(3, 0), 1);
        Check.due("give(1, 2)", x.give(1, 2), 0);
        Check.due("give(4, 2): waits at the end", x.give(4, 2), 1);
        dueDuty("of 0", x, 0, 2, 3);
        dueDuty("of 2", x, 2, 1, 4);
        Check.due("trips in duties", x.count(2), 4);
        Check.due("vehicles with a duty", x.count(4), 2);
        x.relink();
        TramLines y = line();
        y.setTurn(5, true);
        y.addTrip(0, 5, 0);
        y.addTrip(5, 0, 20);
        y.addTrip(0, 11, 200);
        y.give(5, 0);
        y.give(6, 0);
        y.give(7, 0);
        y.addTrip(0, 5, 50);
        Check.due("between two is refused, as it ends elsewhere", y.wouldRefuse(8, 0), 5);
        y.turnShort(0, 5);
        dueDuty("before the round", y, 0, 5, 6, 7);
        Check.due("a round goes between", y.addTrip(5, 0, 80), 9);
        Check.due("behind two", y.giveRound(8, 9, 0), 2);
        dueDuty("with the round", y, 0, 5, 6, 8, 9, 7);
    }

    private static void refused(String what, TramLines x, int trip, int vehicle, int reason) {
        Check.due("wouldRefuse " + what, x.wouldRefuse(trip, vehicle), reason);
        int undone = x.count(2);
        Check.notSupported("give " + what, () -> x.give(trip, vehicle));
        Check.due("refusal of " + what, x.refusal(), reason);
        Check.due("nothing given by " + what, x.count(2), undone);
    }

    private static void refusedTrips() {
        TramLines x = line();
        x.cancel(4, true);
        refused("a cancelled one", x, 4, 0, 1);
        x.give(0, 0);
        refused("one that the vehicle has", x, 0, 0, 2);
        refused("one that another has", x, 0, 1, 2);
        x.addTrip(11, 0, 0);
        refused("one at the same minute", x, 5, 0, 3);
        x.addTrip(11, 0, 34);
        refused("one that comes a minute too early", x, 6, 0, 4);
        refused("one that begins elsewhere", x, 2, 0, 4);
        Check.due("just in time", x.wouldRefuse(1, 0), 0);
        x.set(0, 1);
        Check.due("in time with a shorter turn", x.wouldRefuse(6, 0), 0);
        x.set(0, 2);
        x.give(1, 0);
        refused("not the first stop of the home", x, 3, 1, 6);
        refused("not the first stop of the other home", x, 2, 2, 6);
        x.give(2, 1);
        refused("before one that can follow, but begins elsewhere", x, 5, 1, 6);
        x.addTrip(11, 0, 36);
        refused("before one that cannot follow, and begins elsewhere", x, 7, 1, 5);
        x.addTrip(0, 11, 36);
        refused("before one that begins where it does not end", x, 8, 1, 5);
        Check.due("none was refused", x.wouldRefuse(3, 0), 4);
        Check.due("and the reason stays", x.refusal(), 5);
    }

    private static void orderOfReasons() {
        TramLines x = line();
        x.give(1, 2);
        x.give(2, 2);
        x.addTrip(0, 11, 69);
        Check.due("4 before 5", x.wouldRefuse(5, 2), 4);
        x.addTrip(0, 11, 70);
        Check.due("3 before 4 and 6", x.wouldRefuse(6, 2), 3);
        x.addTrip(0, 11, 10);
        Check.due("5 before 6", x.wouldRefuse(7, 2), 5);
        x.cancel(7, true);
        Check.due("1 before 5", x.wouldRefuse(7, 2), 1);
        x.give(3, 2);
        x.cancel(3, true);
        Check.due("1, as a cancelled one is in no duty", x.wouldRefuse(3, 2), 1);
    }

    private static void wrongNumbersForGive() {
        TramLines x = line();
        int[][] wrong = {{-1, 0}, {5, 0}, {0, -1}, {0, 3}};
        for (int[] pair : wrong) {
            String of = "(" + pair[0] + ", " + pair[1] + ")";
            Check.noSuchIndex("give" + of, () -> x.give(pair[0], pair[1]));
            Check.noSuchIndex("wouldRefuse" + of, () -> x.wouldRefuse(pair[0], pair[1]));
            Check.noSuchIndex("giveRound, first" + of, () -> x.giveRound(pair[0], 1, pair[1]));
            Check.noSuchIndex("giveRound, second" + of, () -> x.giveRound(1, pair[0], pair[1]));
        }
        Check.noElement("these were not refused", x::refusal);
    }

    private static void givenRounds() {
        TramLines x = line();
        Check.due("giveRound(2, 3, 0)", x.giveRound(2, 3, 0), 0);
        dueDuty("of 0", x, 0, 2, 3);
        Check.due("giveRound(0, 1, 0) before it", x.giveRound(0, 1, 0), 0);
        dueDuty("of 0 then", x, 0, 0, 1, 2, 3);
        Check.due("a trip behind", x.give(4, 0), 4);
        Check.due("one change each", x.undo(), 7);
        Check.due("the round is one change", x.undo(), 7 - 1);
        dueDuty("of 0 before", x, 0, 2, 3);
    }

    private static void refusedRound(String what, TramLines x, int first, int second, int vehicle, int reason) {
        int given = x.count(2);
        Check.notSupported("giveRound " + what, () -> x.giveRound(first, second, vehicle));
        Check.due("refusal of " + what, x.refusal(), reason);
        Check.due("nothing given by " + what, x.count(2), given);
    }

    private static void refusedRounds() {
        TramLines x = line();
        refusedRound("both the same", x, 0, 0, 0, 1);
        refusedRound("second before first", x, 1, 0, 0, 7);
        refusedRound("two in the same direction", x, 0, 2, 0, 7);
        refusedRound("begins not at home", x, 0, 1, 2, 6);
        x.cancel(1, true);
        refusedRound("second one cancelled", x, 0, 1, 0, 1);
        refusedRound("first one cancelled", x, 1, 2, 2, 1);
        x.give(0, 0);
        refusedRound("cancelled before in a duty", x, 0, 1, 0, 1);
        refusedRound("first in a duty", x, 0, 3, 0, 2);
        refusedRound("in a duty before both", x, 0, 2, 0, 2);
        refusedRound("both the same before in a duty", x, 0, 0, 0, 1);
        x.cancel(1, false);
        x.give(1, 0);
        refusedRound("second in a duty", x, 2, 1, 1, 2);
        x.addTrip(0, 11, 35);
        refusedRound("first at the same minute", x, 5, 3, 0, 3);
        x.addTrip(11, 0, 70);
        refusedRound("cannot follow before", x, 6, 4, 0, 4);
        x.give(2, 1);
        x.addTrip(0, 11, 1);
        x.addTrip(11, 0, 69);
        refusedRound("the one behind cannot follow", x, 7, 8, 1, 5);
        x.addTrip(11, 0, 35);
        x.addTrip(0, 11, 71);
        refusedRound("the one behind cannot follow, and begins wrongly", x, 9, 10, 1, 5);
    }

    private static void roundsInTheMiddle() {
        TramLines x = new TramLines();
        x.addVehicle(0);
        x.addTrip(0, 11, 100);
        x.addTrip(0, 11, 0);
        x.addTrip(11, 0, 100);
        x.give(0, 0);
        refusedRound("the second one's minute is asked by reason 5 alone", x, 1, 2, 0, 5);
        TramLines y = new TramLines();
        y.addVehicle(0);
        y.addTrip(0, 11, 100);
        y.addTrip(0, 11, 0);
        y.addTrip(11, 0, 65);
        y.give(0, 0);
        Check.due("just in time", y.giveRound(1, 2, 0), 0);
        dueDuty("with the round in front", y, 0, 1, 2, 0);
        y.addTrip(11, 0, 200);
        y.addTrip(0, 11, 300);
        Check.due("a round behind", y.giveRound(3, 4, 0), 3);
        dueDuty("with the round behind", y, 0, 1, 2, 0, 3, 4);
    }

    private static void keptReason() {
        TramLines x = line();
        Check.noElement("none was refused", x::refusal);
        x.wouldRefuse(1, 0);
        Check.noElement("wouldRefuse does not refuse", x::refusal);
        Check.notSupported("give(1, 0)", () -> x.give(1, 0));
        Check.due("reason 6", x.refusal(), 6);
        x.give(0, 0);
        Check.due("a successful one keeps it", x.refusal(), 6);
        x.wouldRefuse(0, 0);
        Check.due("wouldRefuse keeps it", x.refusal(), 6);
        Check.notSupported("giveRound(3, 2, 1)", () -> x.giveRound(3, 2, 1));
        Check.due("reason 7", x.refusal(), 7);
        x.save();
        Check.notSupported("give(0, 1)", () -> x.give(0, 1));
        x.restore();
        Check.due("restore does not touch it", x.refusal(), 2);
        x.give(2, 1);
        x.undo();
        Check.due("undo does not touch it", x.refusal(), 2);
        Check.noSuchIndex("give(9, 9)", () -> x.give(9, 9));
        Check.due("a wrong call does not touch it", x.refusal(), 2);
    }

    private static void takenTrips() {
        TramLines x = line();
        Check.noSuchIndex("take(-1)", () -> x.take(-1));
        Check.noSuchIndex("take(3)", () -> x.take(3));
        Check.noElement("take(0) without a duty", () -> x.take(0));
        x.giveRound(0, 1, 0);
        x.give(3, 2);
        Check.due("take(0)", x.take(0), 1);
        Check.due("it is free", x.trip(1, 6), -1);
        dueDuty("of 0", x, 0, 0);
        dueDuty("of 2", x, 2, 3);
        Check.due("take(0) again", x.take(0), 0);
        Check.noElement("take(0) at the end", () -> x.take(0));
        Check.due("it can be given again", x.give(0, 1), 0);
    }

    /** Vehicle 0 has 0, 1, 2, 3 (at 0, 35, 85, 120), and vehicle 1 has 4, 5, 6 (at 10, 50, 90). */
    private static TramLines twoDuties() {
        TramLines x = new TramLines();
        int[] minutes = {0, 35, 85, 120, 10, 50, 90};
        for (int trip = 0; trip < 7; trip++) {
            boolean isUp = trip % 2 == 0;
            x.addTrip(isUp ? 0 : 11, isUp ? 11 : 0, minutes[trip]);
        }
        x.addVehicle(0);
        x.addVehicle(0);
        x.addVehicle(1);
        for (int trip = 0; trip < 7; trip++) {
            x.give(trip, trip < 4 ? 0 : 1);
        }
        return x;
    }

    private static void exchanges() {
        TramLines x = twoDuties();
        Check.due("all", x.exchange(0, 1, 0), 7);
        dueDuty("of 0", x, 0, 4, 5, 6);
        dueDuty("of 1", x, 1, 0, 1, 2, 3);
        Check.due("the ends at 60", x.exchange(0, 1, 60), 3);
        dueDuty("of 0 then", x, 0, 4, 5, 2, 3);
        dueDuty("of 1 then", x, 1, 0, 1, 6);
        Check.due("at 85 and later", x.exchange(1, 0, 85), 3);
        dueDuty("of 0 again", x, 0, 4, 5, 6);
        Check.due("none later than 120", x.exchange(0, 1, 121), 0);
        Check.due("that was a change", x.undo(), 7);
        Check.due("none at the greatest minute", x.exchange(0, 1, 2000000000), 0);
        Check.due("least minute", x.exchange(0, 1, Integer.MIN_VALUE), 7);
        dueDuty("of 0 in the end", x, 0, 0, 1, 2, 3);
        TramLines y = line();
        y.giveRound(0, 1, 0);
        y.giveRound(2, 3, 0);
        Check.due("to a vehicle without a duty", y.exchange(0, 1, 70), 2);
        dueDuty("first half", y, 0, 0, 1);
        dueDuty("second half", y, 1, 2, 3);
        Check.due("back", y.exchange(1, 0, 70), 2);
        dueDuty("whole", y, 0, 0, 1, 2, 3);
        Check.due("two without a duty", y.exchange(1, 2, 0), 0);
    }

    private static void refusedExchanges() {
        TramLines x = twoDuties();
        Check.noSuchIndex("exchange(3, 0, 0)", () -> x.exchange(3, 0, 0));
        Check.noSuchIndex("exchange(0, -1, 0)", () -> x.exchange(0, -1, 0));
        Check.noSuchIndex("exchange(3, 3, 0)", () -> x.exchange(3, 3, 0));
        Check.badArgument("exchange(1, 1, 0)", () -> x.exchange(1, 1, 0));
        Check.badState("the one at 35 cannot follow that at 10", () -> x.exchange(0, 1, 35));
        Check.badState("two behind one another in the same direction", () -> x.exchange(0, 1, 86));
        Check.badState("first one at another home", () -> x.exchange(0, 2, 0));
        Check.badState("likewise in the other order", () -> x.exchange(2, 0, 0));
        Check.badState("the end begins at another home", () -> x.exchange(2, 0, 70));
        Check.due("the last one to the other home", x.exchange(2, 0, 105), 1);
        dueDuty("of 2", x, 2, 3);
        x.undo();
        dueDuty("of 0", x, 0, 0, 1, 2, 3);
        dueDuty("of 1", x, 1, 4, 5, 6);
    }

    private static void duties() {
        TramLines x = line();
        x.giveRound(0, 1, 0);
        Check.due("duty(0, 0)", x.duty(0, 0), 0);
        Check.due("duty(0, 1)", x.duty(0, 1), 1);
        Check.noElement("duty(0, 2)", () -> x.duty(0, 2));
        Check.noElement("duty(0, -1)", () -> x.duty(0, -1));
        Check.noElement("duty(1, 0)", () -> x.duty(1, 0));
        Check.noSuchIndex("duty(3, 0)", () -> x.duty(3, 0));
        Check.noSuchIndex("duty(-1, 7)", () -> x.duty(-1, 7));
        TramLines y = new TramLines();
        y.setTurn(1, true);
        y.set(0, 0);
        y.addVehicle(0);
        y.addVehicle(0);
        for (int trip = 0; trip < 30; trip++) {
            y.addTrip(trip % 2, 1 - trip % 2, 10 * trip);
            Check.due("a long duty", y.give(trip, 0), trip);
        }
        Check.due("all trips", y.duty(0, 29), 29);
        Check.due("all ends of a long duty", y.exchange(0, 1, 0), 30);
        Check.due("all trips then", y.duty(1, 29), 29);
    }

    private static void numbersOfVehicles() {
        TramLines x = line();
        x.setTurn(5, true);
        x.giveRound(0, 1, 0);
        x.addTrip(0, 5, 80);
        x.give(5, 0);
        int[] full = {0, 3, 33 + 33 + 15, 2 + 12, 1, 1, 5};
        int[] empty = {0, 0, 0, 0, 0, 0, 0};
        int[] other = {1, 0, 0, 0, 0, 0, 11};
        for (int what = 0; what <= 6; what++) {
            Check.due("vehicle(0, " + what + ")", x.vehicle(0, what), full[what]);
            Check.due("vehicle(1, " + what + ")", x.vehicle(1, what), empty[what]);
            Check.due("vehicle(2, " + what + ")", x.vehicle(2, what), other[what]);
        }
        Check.badArgument("vehicle(0, 7)", () -> x.vehicle(0, 7));
        Check.badArgument("vehicle(0, -1)", () -> x.vehicle(0, -1));
        Check.noSuchIndex("vehicle(-1, 0)", () -> x.vehicle(-1, 0));
        Check.noSuchIndex("vehicle(3, 9)", () -> x.vehicle(3, 9));
        x.setSection(0, 1, 0);
        Check.due("shorter trips", x.vehicle(0, 2), 31 + 31 + 13);
        Check.due("longer waits", x.vehicle(0, 3), 4 + 14);
    }

    private static void boxedIn() {
        TramLines x = new TramLines();
        x.addVehicle(0);
        x.addVehicle(1);
        x.addVehicle(0);
        for (int trip = 0; trip < 3; trip++) {
            x.addTrip(0, 11, 10);
        }
        x.addTrip(11, 0, 20);
        x.addTrip(0, 11, 11);
        x.give(0, 0);
        Check.due("behind one without a duty", x.vehicle(0, 5), 1);
        Check.due("one without a duty is not boxed in", x.vehicle(2, 5), 0);
        x.give(1, 2);
        Check.due("behind one at the same minute", x.vehicle(0, 5), 0);
        x.take(2);
        x.give(4, 2);
        Check.due("behind a later one", x.vehicle(0, 5), 1);
        Check.due("the front one", x.vehicle(2, 5), 0);
        x.give(3, 1);
        Check.due("the other depot does not matter", x.vehicle(1, 5), 0);
        x.take(0);
        Check.due("without a duty of its own", x.vehicle(0, 5), 0);
        x.give(4 - 3, 0);
        Check.due("an earlier one behind a later one", x.vehicle(0, 5), 1);
        x.take(2);
        x.take(0);
        x.give(4, 0);
        x.give(1, 2);
        Check.due("a later one behind an earlier one", x.vehicle(0, 5), 0);
        x.addVehicle(0);
        Check.due("one without a duty in front", x.vehicle(0, 5), 1);
        Check.due("in front of both", x.vehicle(2, 5), 1);
        Check.due("in the other depot", x.vehicle(1, 5), 0);
    }

    private static void leavingVehicles() {
        TramLines x = new TramLines();
        for (int vehicle = 0; vehicle < 6; vehicle++) {
            x.addVehicle(vehicle == 3 ? 1 : 0);
        }
        int[] minutes = {20, 10, 20, 0, 10, 30};
        for (int trip = 0; trip < 6; trip++) {
            x.addTrip(trip == 3 ? 11 : 0, trip == 3 ? 0 : 11, minutes[trip]);
        }
        for (int trip = 0; trip < 5; trip++) {
            x.give(trip, trip);
        }
        int[] order = {4, 1, 2, 0};
        for (int index = 0; index < 4; index++) {
            Check.due("leaving(0, " + index + ")", x.leaving(0, index), order[index]);
        }
        Check.noElement("the one without a duty", () -> x.leaving(0, 4));
        Check.noElement("leaving(0, -1)", () -> x.leaving(0, -1));
        Check.due("leaving(1, 0)", x.leaving(1, 0), 3);
        Check.noElement("leaving(1, 1)", () -> x.leaving(1, 1));
        Check.noSuchIndex("leaving(2, 0)", () -> x.leaving(2, 0));
        Check.noSuchIndex("leaving(-1, 0)", () -> x.leaving(-1, 0));
        x.give(5, 5);
        Check.due("the late one in front", x.leaving(0, 4), 5);
    }
}
