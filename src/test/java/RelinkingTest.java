/** Promises 31 to 36: short turns, late starts, the least number of vehicles, the least cost, and relinking. */
public final class RelinkingTest {

    public static void main(String[] args) {
        shortTurns();
        refusedShortTurns();
        lateStarts();
        refusedLateStarts();
        leastNumbers();
        leastNumbersWithoutPairs();
        leastCosts();
        costOfAChain();
        nextTrips();
        relinkedFromTheFront();
        relinkedToTheEarliest();
        relinkedAcrossStops();
        relinkedWithRests();
        relinkedManyTrips();
        Check.finish();
    }

    /** 0: 0-11@10 (43), 1: 11-0@45 (78), 2: 0-11@80 (113), all of vehicle 0; turns at 4 and 7. */
    private static TramLines line() {
        TramLines x = new TramLines();
        x.setTurn(4, true);
        x.setTurn(7, true);
        x.addTrip(0, 11, 10);
        x.addTrip(11, 0, 45);
        x.addTrip(0, 11, 80);
        x.addVehicle(0);
        x.give(0, 0);
        x.give(1, 0);
        x.give(2, 0);
        return x;
    }

    private static void shortTurns() {
        TramLines x = line();
        Check.due("turnShort(1, 4)", x.turnShort(1, 4), 12);
        Check.due("first stop", x.trip(1, 0), 11);
        Check.due("last stop", x.trip(1, 1), 4);
        Check.due("departure", x.trip(1, 2), 45);
        Check.due("arrival", x.trip(1, 3), 66);
        Check.due("it stays in its duty", x.trip(1, 6), 0);
        Check.due("the one behind is out", x.trip(2, 6), -1);
        Check.due("two are left", x.vehicle(0, 1), 2);
        Check.due("turnShort(1, 7) again", x.turnShort(1, 7), 9);
        x.setSection(0, 1, 0);
        Check.due("turnShort(2, 4) in no duty", x.turnShort(2, 4), 21);
        Check.due("arrival with a short section", x.trip(2, 3), 90);
        Check.due("the first one", x.turnShort(0, 7), 12);
        Check.due("the first one is left", x.vehicle(0, 1), 1);
        x.cancel(2, true);
        x.setTurn(2, true);
        Check.due("a cancelled one", x.turnShort(2, 2), 6);
        Check.due("it is still cancelled", x.trip(2, 5), 1);
    }

    private static void refusedShortTurns() {
        TramLines x = line();
        Check.noSuchIndex("turnShort(-1, 4)", () -> x.turnShort(-1, 4));
        Check.noSuchIndex("turnShort(3, 4)", () -> x.turnShort(3, 4));
        Check.noSuchIndex("turnShort(3, 44)", () -> x.turnShort(3, 44));
        int[] wrong = {-1, 0, 11, 12, 5, Integer.MAX_VALUE, Integer.MIN_VALUE};
        for (int stop : wrong) {
            Check.badArgument("turnShort(0, " + stop + ")", () -> x.turnShort(0, stop));
            Check.badArgument("turnShort(1, " + stop + ")", () -> x.turnShort(1, stop));
        }
        x.turnShort(0, 7);
        Check.badArgument("at its last stop", () -> x.turnShort(0, 7));
        Check.badArgument("behind its last stop", () -> x.turnShort(0, 11));
    }

    private static void lateStarts() {
        TramLines x = line();
        x.setSection(10, 1, 0);
        Check.due("startLate(1, 7)", x.startLate(1, 7), 10);
        Check.due("first stop", x.trip(1, 0), 7);
        Check.due("last stop", x.trip(1, 1), 0);
        Check.due("departure", x.trip(1, 2), 55);
        Check.due("arrival", x.trip(1, 3), 76);
        Check.due("it is out of its duty", x.trip(1, 6), -1);
        Check.due("the one behind is out", x.trip(2, 6), -1);
        Check.due("one is left", x.vehicle(0, 1), 1);
        Check.due("startLate(1, 4) again", x.startLate(1, 4), 9);
        Check.due("startLate(0, 4)", x.startLate(0, 4), 12);
        Check.due("none is left", x.vehicle(0, 1), 0);
        x.cancel(2, true);
        Check.due("a cancelled one", x.startLate(2, 7), 21);
        Check.due("it is still cancelled", x.trip(2, 5), 1);
    }

    private static void refusedLateStarts() {
        TramLines x = line();
        Check.noSuchIndex("startLate(-1, 4)", () -> x.startLate(-1, 4));
        Check.noSuchIndex("startLate(3, 4)", () -> x.startLate(3, 4));
        int[] wrong = {-1, 0, 11, 12, 5, Integer.MAX_VALUE, Integer.MIN_VALUE};
        for (int stop : wrong) {
            Check.badArgument("startLate(0, " + stop + ")", () -> x.startLate(0, stop));
            Check.badArgument("startLate(1, " + stop + ")", () -> x.startLate(1, stop));
        }
        x.setTurn(3, true);
        x.addTrip(0, 11, 1430);
        Check.badArgument("departure 1442", () -> x.startLate(3, 4));
        x.addTrip(0, 11, 1428);
        Check.badArgument("departure 1440", () -> x.startLate(4, 4));
        Check.due("it is as before", x.trip(4, 2), 1428);
        Check.due("departure 1439", x.startLate(3, 3), 9);
        Check.due("its departure", x.trip(3, 2), 1439);
    }

    /** 0: 0-11@0 (33), 1: 11-0@40 (73), 2: 11-0@50 (83), 3: 0-11@100 (133). */
    private static TramLines fourTrips() {
        TramLines x = new TramLines();
        x.addTrip(0, 11, 0);
        x.addTrip(11, 0, 40);
        x.addTrip(11, 0, 50);
        x.addTrip(0, 11, 100);
        return x;
    }

    private static void dueLeast(String what, TramLines x, int want) {
        Check.due(what + " by waiting", x.leastVehicles(true), want);
        Check.due(what + " by matching", x.leastVehicles(false), want);
    }

    private static void leastNumbers() {
        TramLines x = fourTrips();
        dueLeast("of four", x, 2);
        x.set(0, 7);
        dueLeast("turn time 7", x, 2);
        x.set(0, 8);
        dueLeast("turn time 8: 0 to 2 and 1 to 3", x, 2);
        x.set(0, 18);
        dueLeast("turn time 18: 1 to 3 alone", x, 3);
        x.set(0, 17);
        dueLeast("turn time 17: 0 to 2 and one of both to 3", x, 2);
        x.cancel(2, true);
        dueLeast("without 2", x, 2);
        x.cancel(1, true);
        dueLeast("without 1 and 2", x, 2);
        x.cancel(0, true);
        x.cancel(3, true);
        dueLeast("of none", x, 0);
    }

    private static void leastNumbersWithoutPairs() {
        TramLines x = new TramLines();
        for (int trip = 0; trip < 30; trip++) {
            x.addTrip(0, 11, 40 * trip);
        }
        dueLeast("of thirty in one direction", x, 30);
        TramLines y = new TramLines();
        y.setTurn(5, true);
        y.addTrip(0, 5, 0);
        y.addTrip(0, 5, 0);
        y.addTrip(5, 0, 17);
        y.addTrip(5, 11, 17);
        y.addTrip(5, 11, 17);
        dueLeast("at an inner stop", y, 3);
        y.addVehicle(0);
        y.give(0, 0);
        dueLeast("vehicles do not matter", y, 3);
    }

    private static void leastCosts() {
        TramLines x = fourTrips();
        int[][] costs = {{0, 0}, {7, 28}, {8, 31}, {10, 37}, {17, 58}, {20, 64}, {100, 224}, {1000, 2024}};
        for (int[] cost : costs) {
            Check.due("leastCost(" + cost[0] + ")", x.leastCost(cost[0]), cost[1]);
        }
        Check.badArgument("price -1", () -> x.leastCost(-1));
        Check.badArgument("price 1001", () -> x.leastCost(1001));
        x.cancel(1, true);
        Check.due("without 1", x.leastCost(100), 100 + 17 + 17);
        x.cancel(3, true);
        Check.due("without 1 and 3", x.leastCost(16), 32);
        Check.due("just cheaper", x.leastCost(18), 35);
        x.addTrip(0, 11, 900);
        Check.due("a long wait is too dear", x.leastCost(100), 217);
        Check.due("but not always", x.leastCost(1000), 1000 + 17 + 817);
    }

    private static void costOfAChain() {
        TramLines x = new TramLines();
        x.set(0, 0);
        for (int trip = 0; trip < 30; trip++) {
            x.addTrip(trip % 2 == 0 ? 0 : 11, trip % 2 == 0 ? 11 : 0, 35 * trip);
        }
        dueLeast("of a chain", x, 1);
        Check.due("of a chain", x.leastCost(500), 500 + 29 * 2);
        Check.due("just not worth it", x.leastCost(2), 60);
        Check.due("just worth it", x.leastCost(3), 3 + 58);
        x.set(0, 3);
        dueLeast("without the next ones", x, 3);
        Check.due("with those two trips later", x.leastCost(1000), 3000 + 27 * 72);
    }

    private static void nextTrips() {
        TramLines x = fourTrips();
        x.addTrip(11, 0, 35);
        x.addTrip(11, 0, 34);
        x.addTrip(11, 0, 35);
        Check.due("just the turn time, the lowest", x.nextTrip(0), 4);
        x.cancel(4, true);
        Check.due("an active one", x.nextTrip(0), 6);
        x.set(0, 3);
        Check.due("a longer turn time", x.nextTrip(0), 1);
        x.set(0, 1);
        Check.due("a shorter one", x.nextTrip(0), 5);
        x.cancel(0, true);
        Check.due("of a cancelled one", x.nextTrip(0), 5);
        Check.due("back", x.nextTrip(1), 3);
        Check.noElement("none behind the last one", () -> x.nextTrip(3));
        Check.noSuchIndex("nextTrip(-1)", () -> x.nextTrip(-1));
        Check.noSuchIndex("nextTrip(7)", () -> x.nextTrip(7));
        x.addVehicle(1);
        x.give(5, 0);
        x.cancel(0, false);
        Check.due("one in a duty", x.nextTrip(0), 5);
        x.addTrip(0, 11, 84);
        x.cancel(3, true);
        Check.due("the latest one that was added", x.nextTrip(2), 7);
        TramLines y = new TramLines();
        y.addTrip(11, 0, 40);
        y.addTrip(0, 11, 0);
        Check.due("the first one that was added", y.nextTrip(1), 0);
    }

    private static void dueDuty(String what, TramLines x, int vehicle, int... trips) {
        Check.due(what + " length", x.vehicle(vehicle, 1), trips.length);
        for (int position = 0; position < trips.length; position++) {
            Check.due(what + " at " + position, x.duty(vehicle, position), trips[position]);
        }
    }

    private static void relinkedFromTheFront() {
        TramLines x = fourTrips();
        Check.due("without vehicles", x.relink(), 4);
        x.addVehicle(0);
        x.addVehicle(1);
        x.addVehicle(0);
        x.addVehicle(0);
        x.give(3, 0);
        x.give(2, 1);
        Check.due("relink", x.relink(), 0);
        dueDuty("the front one", x, 3, 0, 1, 3);
        dueDuty("the one at the other end", x, 1, 2);
        dueDuty("emptied", x, 0);
        dueDuty("not needed", x, 2);
        x.cancel(1, true);
        Check.due("relink without 1", x.relink(), 0);
        dueDuty("the front one then", x, 3, 0, 2, 3);
        dueDuty("the one at the other end then", x, 1);
    }

    private static void relinkedToTheEarliest() {
        TramLines x = new TramLines();
        x.addVehicle(0);
        x.addVehicle(0);
        x.addVehicle(0);
        x.addTrip(0, 11, 20);
        x.addTrip(0, 11, 0);
        x.addTrip(0, 11, 20);
        x.addTrip(11, 0, 60);
        x.addTrip(11, 0, 61);
        x.addTrip(11, 0, 62);
        Check.due("relink", x.relink(), 0);
        dueDuty("the first one takes the first one back", x, 2, 1, 3);
        dueDuty("of equal arrivals the lowest vehicle", x, 0, 2, 4);
        dueDuty("the other one", x, 1, 0, 5);
        Check.due("undo", x.undo(), 7);
        Check.due("none is in a duty", x.count(2), 0);
    }

    private static void relinkedAcrossStops() {
        TramLines x = new TramLines();
        x.setTurn(5, true);
        x.addVehicle(0);
        x.addVehicle(1);
        x.addTrip(0, 5, 0);
        x.addTrip(11, 5, 0);
        x.addTrip(5, 11, 17);
        x.addTrip(5, 0, 17);
        x.addTrip(5, 0, 20);
        Check.due("relink", x.relink(), 1);
        dueDuty("the earlier arrival goes on", x, 0, 0, 2);
        dueDuty("the later one waits", x, 1, 1, 4);
        Check.due("too early for it", x.trip(3, 6), -1);
        Check.due("left", x.count(1) - x.count(2), 1);
    }

    private static void relinkedWithRests() {
        TramLines x = new TramLines();
        x.setTurn(5, true);
        x.addTrip(5, 11, 0);
        x.addTrip(0, 11, 10);
        x.addTrip(0, 11, 10);
        x.addTrip(0, 11, 10);
        x.cancel(3, true);
        x.addVehicle(0);
        Check.due("one begins elsewhere, one has no vehicle", x.relink(), 2);
        dueDuty("the lowest one at a minute", x, 0, 1);
        Check.due("a cancelled one has none", x.trip(3, 6), -1);
        Check.due("again", x.relink(), 2);
    }

    private static void relinkedManyTrips() {
        TramLines x = new TramLines();
        for (int trip = 0; trip < 30; trip++) {
            x.addTrip(trip % 2 == 0 ? 0 : 11, trip % 2 == 0 ? 11 : 0, 1400 - 35 * trip);
        }
        x.addVehicle(1);
        Check.due("relink in the order of departures", x.relink(), 0);
        for (int position = 0; position < 30; position++) {
            Check.due("at " + position, x.duty(0, position), 29 - position);
        }
        Check.due("minutes between", x.vehicle(0, 3), 29 * 2);
    }
}
