/** The boundary cases of "Blocks" and "Run" and of the promises 24 to 30, a test for each sentence. */
public final class RunBoundariesTest {

    public static void main(String[] args) {
        mostBlocks();
        firstAndLastMinute();
        detourInPlace();
        tripsInDuties();
        beginOfTrips();
        departsWhenArrived();
        earliestThenLowest();
        minute3000();
        gapHasPassed();
        sameTram();
        sameDirectionAndStop();
        behindTheBlock();
        departsByDetour();
        negativeDelay();
        blockAskedBehindGap();
        gapAskedBehindBlock();
        blockAskedBehindBlock();
        minute3000AskedBehindGap();
        sameMinuteCountsForGap();
        blocksOfTheMinute();
        waitsOfStuckTrips();
        departuresOfStuckTrips();
        numberOfBlock();
        noSuchSectionToBlock();
        blockedMinutesOutOfRange();
        fullBlocks();
        laterBlocksMoveUp();
        remainingBlocks();
        noSuchBlock();
        noSuchTripOfActual();
        noActualTime();
        noSuchTripOfDelay();
        noDelay();
        numbersOfRun();
        noSuchNumberOfRun();
        actualBunchesBelowLeastHeadway();
        thirtyDepartures();
        noSuchPlaceOfActualBunches();
        meanOfDelays();
        noMeanDelay();
        Check.finish();
    }

    /** Trips up from 0 at the given minutes, each with a vehicle of its own. */
    private static TramLines trams(int... minutes) {
        TramLines x = new TramLines();
        for (int number = 0; number < minutes.length; number++) {
            x.addTrip(0, 11, minutes[number]);
            x.addVehicle(0);
            x.give(number, number);
        }
        return x;
    }

    private static void dueRun(String what, TramLines x, int... numbers) {
        for (int number = 0; number <= 6; number++) {
            Check.due(what + " run " + number, x.run(number), numbers[number]);
        }
    }

    private static void mostBlocks() {
        Check.sentence("At most 6 blocks are kept, numbered from 0");
        TramLines x = new TramLines();
        for (int block = 0; block < 6; block++) {
            Check.due("block " + block, x.block(0, 0, 0), block);
        }
        Check.badState("one more", () -> x.block(0, 0, 0));
        Check.due("their number", x.count(5), 6);
        Check.due("the last one goes", x.unblock(5), 5);
        Check.due("the first one goes", x.unblock(0), 4);
    }

    private static void firstAndLastMinute() {
        Check.sentence("a block is a section and a time from a first to a last minute, both included");
        TramLines x = trams(100);
        int[][] blocks = {{112, 112}, {111, 111}, {113, 113}, {111, 113}, {0, 112}, {112, 2000}, {0, 2000}};
        int[] departures = {113, 112, 112, 114, 113, 2001, 2001};
        for (int number = 0; number < blocks.length; number++) {
            x.block(4, blocks[number][0], blocks[number][1]);
            Check.due("with block " + number, x.actual(0, 4, true), departures[number]);
            x.unblock(0);
        }
        TramLines y = trams(0);
        y.block(0, 0, 0);
        Check.due("at minute 0", y.actual(0, 0, true), 1);
        y.unblock(0);
        y.block(3, 0, 200);
        Check.due("the section before", y.actual(0, 2, true), 6);
        Check.due("the section itself", y.actual(0, 3, true), 201);
        TramLines z = new TramLines();
        z.addTrip(11, 0, 0);
        z.addVehicle(1);
        z.give(0, 0);
        z.block(0, 30, 35);
        Check.due("down into the last section", z.actual(0, 1, true), 36);
        z.block(10, 0, 0);
        Check.due("down into the first section", z.actual(0, 11, true), 1);
    }

    private static void detourInPlace() {
        Check.sentence("if the section has a detour, it takes the detour instead, which needs the detour time in place "
                + "of the section time");
        TramLines x = trams(100);
        x.setSection(4, 9, 1);
        Check.due("not without a block", x.actual(0, 5, false), 121);
        x.block(4, 112, 112);
        Check.due("the least detour", x.actual(0, 5, false), 113);
        x.setSection(4, 1, 30);
        Check.due("the greatest detour", x.actual(0, 5, false), 142);
        Check.due("at once", x.actual(0, 4, true), 112);
        x.unblock(0);
        x.block(4, 113, 200);
        Check.due("not when the block begins behind it", x.actual(0, 5, false), 113);
    }

    private static void tripsInDuties() {
        Check.sentence("The run of a day is what happens to all active trips that are in duties.");
        TramLines x = new TramLines();
        x.addTrip(0, 11, 0);
        x.addVehicle(0);
        dueRun("of none", x, 0, 0, 0, 0, 0, 0, 0);
        x.give(0, 0);
        dueRun("of one", x, 1, 0, 0, 0, 0, 0, 0);
        x.addTrip(0, 11, 0);
        dueRun("one without a vehicle does not hinder it", x, 1, 0, 0, 0, 0, 0, 0);
        x.cancel(0, true);
        dueRun("of a cancelled one", x, 0, 0, 0, 0, 0, 0, 0);
        TramLines y = new TramLines();
        y.setTurn(1, true);
        y.addVehicle(0);
        for (int trip = 0; trip < 30; trip++) {
            y.addTrip(trip % 2, 1 - trip % 2, 5 * trip);
            y.give(trip, 0);
        }
        dueRun("of thirty", y, 30, 0, 0, 0, 0, 0, 0);
    }

    private static void beginOfTrips() {
        Check.sentence("A tram wants to begin its first trip at the planned departure, and each next trip at the planned "
                + "departure or at the turn time after it has arrived with the trip before, whichever is later");
        TramLines x = trams(10);
        x.addTrip(11, 0, 50);
        x.give(1, 0);
        Check.due("the first one", x.actual(0, 0, true), 10);
        Check.due("the next one", x.actual(1, 11, true), 50);
        x.block(0, 0, 14);
        Check.due("just the turn time", x.actual(0, 11, false), 48);
        Check.due("the next one just then", x.actual(1, 11, true), 50);
        x.unblock(0);
        x.block(0, 0, 15);
        Check.due("a minute later", x.actual(0, 11, false), 49);
        Check.due("the next one a minute later", x.actual(1, 11, true), 51);
        x.set(0, 0);
        Check.due("not without a turn time", x.actual(1, 11, true), 50);
        TramLines y = trams(1439);
        Check.due("at the last minute", y.actual(0, 0, true), 1439);
    }

    private static void departsWhenArrived() {
        Check.sentence("at other stops it wants to depart when it has arrived.");
        TramLines x = trams(100);
        for (int stop = 1; stop <= 10; stop++) {
            Check.due("to " + stop, x.actual(0, stop, false), 100 + 3 * stop);
            Check.due("from " + stop, x.actual(0, stop, true), 100 + 3 * stop);
        }
        x.block(0, 0, 110);
        x.setSection(5, 9, 1);
        x.block(5, 126, 126);
        Check.due("not as planned, but late", x.actual(0, 5, true), 126);
        Check.due("not as planned, but early", x.actual(0, 6, true), 127);
    }

    private static void earliestThenLowest() {
        Check.sentence("Of all trams that want to depart, the one with the earliest minute is looked at, of several the "
                + "one with the lowest number of the trip.");
        TramLines x = trams(11, 10);
        x.set(2, 5);
        Check.due("the earlier one first", x.actual(1, 0, true), 10);
        Check.due("the lower one behind it", x.actual(0, 0, true), 15);
        TramLines y = new TramLines();
        y.set(2, 5);
        for (int trip = 0; trip < 3; trip++) {
            y.addTrip(0, 11, 10);
            y.addVehicle(0);
        }
        y.give(2, 0);
        y.give(0, 1);
        y.give(1, 2);
        Check.due("the lowest trip", y.actual(0, 0, true), 10);
        Check.due("the next one", y.actual(1, 0, true), 15);
        Check.due("the highest one of the lowest vehicle", y.actual(2, 0, true), 20);
    }

    /**
     * Twelve trips of 99 minutes, every 101 minutes, of vehicle 0, which begins behind the block: the trip k departs
     * 101 k minutes behind its end, and the trip 9 is at stop 1 after 999 minutes.
     */
    private static TramLines longDay(int lastBlocked) {
        TramLines x = new TramLines();
        for (int section = 0; section < 11; section++) {
            x.setSection(section, 9, 0);
        }
        x.addVehicle(0);
        for (int trip = 0; trip < 12; trip++) {
            x.addTrip(trip % 2 == 0 ? 0 : 11, trip % 2 == 0 ? 11 : 0, 101 * trip);
            x.give(trip, 0);
        }
        x.block(0, 0, lastBlocked);
        return x;
    }

    private static void minute3000() {
        Check.sentence("If the minute is 3000 or later, the trip is stuck: this trip and all trips behind it in its duty "
                + "do not go on.");
        TramLines x = longDay(1999);
        Check.due("at 2999", x.actual(9, 1, true), 2999);
        Check.due("it arrives behind 3000", x.actual(9, 0, false), 3008);
        Check.noElement("the next one is stuck at its first stop", () -> x.actual(10, 0, true));
        Check.noElement("the one behind it", () -> x.actual(11, 11, true));
        dueRun("with 2999", x, 10, 2, 20000, 2000, 0, 0, 2000);
        TramLines y = longDay(2000);
        Check.due("gets there at 3000", y.actual(9, 1, false), 3000);
        Check.noElement("not away at 3000", () -> y.actual(9, 1, true));
        Check.noElement("does not arrive", () -> y.actual(9, 0, false));
        Check.noElement("the next one", () -> y.actual(10, 0, true));
        dueRun("with 3000", y, 9, 3, 9 * 2001, 2001, 0, 0, 2001);
        y.take(0);
        y.take(0);
        dueRun("without trips behind it", y, 9, 1, 9 * 2001, 2001, 0, 0, 2001);
        y.take(0);
        dueRun("without it", y, 9, 0, 9 * 2001, 2001, 0, 0, 2001);
    }

    private static void gapHasPassed() {
        Check.sentence("departed in the same direction from this stop fewer minutes ago than the gap, it waits until the "
                + "minute at which the gap has passed, and wants to depart then.");
        int[] later = {0, 1, 9, 10, 11};
        for (int minutes : later) {
            TramLines x = trams(100, 100 + minutes);
            x.set(2, 10);
            Check.due(minutes + " minutes ago", x.actual(1, 0, true), Math.max(110, 100 + minutes));
            Check.due(minutes + " minutes ago, waits", x.run(5), Math.max(0, 10 - minutes));
        }
        TramLines y = trams(100, 100);
        y.set(2, 0);
        Check.due("without a gap", y.actual(1, 0, true), 100);
        TramLines z = trams(0, 0, 0, 0, 0, 0, 0, 0, 0, 0);
        z.set(2, 10);
        Check.due("the last one of ten", z.actual(9, 0, true), 90);
        dueRun("of ten", z, 10, 0, 450, 90, 0, 450, 0);
    }

    private static void sameTram() {
        Check.sentence("be it the same one");
        TramLines x = new TramLines();
        x.setTurn(1, true);
        x.setSection(0, 1, 0);
        x.set(0, 0);
        x.addTrip(0, 1, 0);
        x.addTrip(1, 0, 1);
        x.addTrip(0, 1, 2);
        x.addVehicle(0);
        x.giveRound(0, 1, 0);
        x.give(2, 0);
        x.set(2, 2);
        Check.due("just the gap", x.actual(2, 0, true), 2);
        x.set(2, 3);
        Check.due("a minute more", x.actual(2, 0, true), 3);
        dueRun("waits for itself", x, 3, 0, 1, 1, 0, 1, 0);
    }

    private static void sameDirectionAndStop() {
        Check.sentence("departed in the same direction from this stop");
        TramLines x = new TramLines();
        x.setTurn(5, true);
        x.setTurn(6, true);
        x.set(2, 10);
        x.addVehicle(0);
        x.addVehicle(1);
        x.addTrip(0, 5, 0);
        x.addTrip(11, 5, 0);
        x.addTrip(5, 11, 20);
        x.addTrip(5, 0, 20);
        x.giveRound(0, 2, 0);
        x.giveRound(1, 3, 1);
        dueRun("in both directions from stop 5", x, 4, 0, 0, 0, 0, 0, 0);
        TramLines y = trams(0);
        y.setTurn(1, true);
        y.set(2, 10);
        y.set(0, 0);
        y.addTrip(0, 1, 20);
        y.addTrip(1, 11, 23);
        y.addVehicle(0);
        y.giveRound(1, 2, 1);
        dueRun("far behind", y, 3, 0, 0, 0, 0, 0, 0);
        y.addTrip(0, 1, 13);
        y.addVehicle(0);
        y.give(3, 2);
        Check.due("an arrival is no departure", y.run(5), 3);
    }

    private static void behindTheBlock() {
        Check.sentence("if the next section is blocked at this minute and has no detour, it waits until the minute behind "
                + "the last one of the block, of the one with the lowest number if there are several, and wants to depart "
                + "then");
        TramLines x = trams(100);
        x.block(0, 100, 100);
        dueRun("a minute", x, 1, 0, 1, 1, 0, 0, 1);
        x.block(0, 50, 150);
        dueRun("a longer one with a higher number", x, 1, 0, 51, 51, 0, 0, 51);
        x.unblock(0);
        x.block(0, 100, 120);
        dueRun("a shorter one with a higher number", x, 1, 0, 51, 51, 0, 0, 51);
        x.block(0, 151, 151);
        dueRun("the next one at the end of it", x, 1, 0, 52, 52, 0, 0, 52);
        x.block(0, 153, 160);
        dueRun("one that begins a minute behind", x, 1, 0, 52, 52, 0, 0, 52);
        x.unblock(0);
        dueRun("without the longer one", x, 1, 0, 21, 21, 0, 0, 21);
    }

    private static void departsByDetour() {
        Check.sentence("Otherwise it departs at this minute, by the detour if the section is blocked.");
        TramLines x = trams(100, 103, 104);
        x.setSection(0, 3, 5);
        x.block(0, 101, 103);
        Check.due("before the block", x.actual(0, 1, false), 103);
        Check.due("at its last minute", x.actual(1, 1, false), 108);
        Check.due("behind the block", x.actual(2, 1, false), 107);
        Check.due("at this minute", x.actual(1, 0, true), 103);
        dueRun("one detour", x, 3, 0, 2, 2, 1, 0, 0);
    }

    private static void negativeDelay() {
        Check.sentence("The delay of a trip is its actual arrival at its last stop minus the planned one.");
        TramLines x = trams(100);
        Check.due("in time", x.delay(0), 0);
        x.setSection(10, 9, 1);
        x.block(10, 0, 2000);
        Check.due("too early", x.delay(0), -8);
        dueRun("too early", x, 1, 0, -8, -8, 1, 0, 0);
        x.setSection(10, 9, 10);
        Check.due("too late", x.delay(0), 1);
        x.setSection(10, 9, 9);
        Check.due("in time by a detour", x.delay(0), 0);
    }

    private static void blockAskedBehindGap() {
        Check.sentence("Behind a wait for the gap or a block, everything is asked anew (a block behind a gap)");
        TramLines x = trams(100, 102);
        x.set(2, 10);
        x.block(0, 110, 119);
        Check.due("waits for both", x.actual(1, 0, true), 120);
        dueRun("for both", x, 2, 0, 18, 18, 0, 8, 10);
        x.setSection(0, 3, 7);
        Check.due("takes the detour behind the gap", x.actual(1, 1, false), 117);
        x.unblock(0);
        x.block(0, 101, 109);
        dueRun("a block that ends before the gap", x, 2, 0, 8, 8, 0, 8, 0);
    }

    private static void gapAskedBehindBlock() {
        Check.sentence("Behind a wait for the gap or a block, everything is asked anew (a gap behind a block)");
        TramLines x = trams(100, 101, 102);
        x.set(2, 10);
        x.block(0, 100, 199);
        Check.due("the first one", x.actual(0, 0, true), 200);
        Check.due("the second one", x.actual(1, 0, true), 210);
        Check.due("the third one", x.actual(2, 0, true), 220);
        dueRun("of three", x, 3, 0, 100 + 109 + 118, 118, 0, 10 + 20, 100 + 99 + 98);
    }

    private static void blockAskedBehindBlock() {
        Check.sentence("Behind a wait for the gap or a block, everything is asked anew (a block behind a block)");
        TramLines x = trams(100);
        x.block(0, 100, 110);
        x.block(0, 111, 111);
        x.block(0, 112, 120);
        dueRun("three in a row", x, 1, 0, 21, 21, 0, 0, 21);
        x.unblock(1);
        dueRun("with a hole between", x, 1, 0, 11, 11, 0, 0, 11);
    }

    /**
     * Vehicle 0 wants to leave stop 1 downwards with its last trip at 2994, and vehicle 1, which goes to and fro
     * between the stops 0 and 1 in the end, with the trip 28 at 2996.
     */
    private static TramLines twoLateTrams() {
        TramLines x = new TramLines();
        x.setTurn(1, true);
        for (int section = 0; section < 11; section++) {
            x.setSection(section, 9, 0);
        }
        x.addVehicle(0);
        x.addVehicle(1);
        for (int trip = 0; trip < 10; trip++) {
            x.addTrip(trip % 2 == 0 ? 0 : 11, trip % 2 == 0 ? 11 : 0, 101 * trip);
            x.give(trip, 0);
        }
        for (int trip = 10; trip < 19; trip++) {
            x.addTrip(trip % 2 == 0 ? 11 : 0, trip % 2 == 0 ? 0 : 11, 101 * (trip - 10));
            x.give(trip, 1);
        }
        for (int trip = 19; trip < 29; trip++) {
            x.addTrip(1 - trip % 2, trip % 2, 909 + 11 * (trip - 19));
            x.give(trip, 1);
        }
        x.block(0, 0, 1995 - 1);
        x.block(10, 0, 1988 - 1);
        return x;
    }

    private static void minute3000AskedBehindGap() {
        Check.sentence("Behind a wait for the gap or a block, everything is asked anew (3000 behind a gap)");
        TramLines x = twoLateTrams();
        x.set(2, 1);
        Check.due("the first tram", x.actual(9, 1, true), 1995 + 9 * 101 + 90);
        Check.due("the second tram", x.actual(28, 1, true), 1988 + 909 + 99);
        x.set(2, 4);
        Check.due("waits until 2998", x.actual(28, 1, true), 2998);
        x.set(2, 5);
        Check.due("waits until 2999", x.actual(28, 1, true), 2999);
        Check.due("and arrives", x.run(1), 0);
        x.set(2, 6);
        Check.noElement("waits until 3000", () -> x.actual(28, 1, true));
        Check.due("and does not arrive", x.run(1), 1);
    }

    private static void sameMinuteCountsForGap() {
        Check.sentence("a departure in the same minute counts for the gap");
        TramLines x = trams(100, 100, 100);
        dueRun("of three", x, 3, 0, 3, 2, 0, 3, 0);
        Check.due("the second one", x.actual(1, 0, true), 101);
        Check.due("the third one", x.actual(2, 0, true), 102);
        x.set(2, 0);
        dueRun("without a gap", x, 3, 0, 0, 0, 0, 0, 0);
    }

    private static void blocksOfTheMinute() {
        Check.sentence("of blocks, only those are asked that block the section at the minute at which a tram is looked at");
        TramLines x = trams(100);
        x.block(0, 0, 99);
        x.block(0, 101, 2000);
        x.block(1, 0, 102);
        dueRun("before, behind, and in the next section", x, 1, 0, 0, 0, 0, 0, 0);
        x.block(0, 100, 100);
        Check.due("the one of the minute, and then the next one", x.actual(0, 0, true), 2001);
        x.unblock(1);
        dueRun("the one of the minute", x, 1, 0, 1, 1, 0, 0, 1);
    }

    private static void waitsOfStuckTrips() {
        Check.sentence("Waits of trips that do not arrive count, too");
        TramLines x = twoLateTrams();
        x.set(2, 5);
        Check.due("of one that arrives", x.run(5), 2999 - 2996);
        x.set(2, 6);
        Check.due("of one that does not arrive", x.run(5), 3000 - 2996);
        Check.due("for blocks", x.run(6), 1995 + 1988);
    }

    private static void departuresOfStuckTrips() {
        Check.sentence("and so do their departures for actualBunches");
        TramLines x = longDay(2000);
        x.addVehicle(0);
        for (int trip = 12; trip < 24; trip++) {
            x.addTrip(trip % 2 == 0 ? 0 : 11, trip % 2 == 0 ? 11 : 0, 101 * (trip - 12));
            x.give(trip, 1);
        }
        Check.due("one behind the other", x.actual(21, 2, true) - x.actual(9, 2, true), 1);
        Check.due("both do not arrive", x.run(1), 6);
        Check.due("five times at stop 2", x.actualBunches(1, 2), 5);
        Check.due("four times at stop 1, where they are stuck", x.actualBunches(1, 1), 4);
    }

    private static void numberOfBlock() {
        Check.sentence("block returns the number of the block.");
        TramLines x = new TramLines();
        Check.due("the first one", x.block(10, 2000, 2000), 0);
        Check.due("the second one", x.block(0, 0, 2000), 1);
        Check.badArgument("a refused one", () -> x.block(0, 1, 0));
        Check.due("the third one", x.block(0, 0, 0), 2);
        x.unblock(0);
        Check.due("behind one that was removed", x.block(0, 0, 0), 2);
        x.undo();
        Check.due("behind an undo", x.block(0, 0, 0), 2);
    }

    private static void noSuchSectionToBlock() {
        Check.sentence("block throws IndexOutOfBoundsException if there is no such section");
        TramLines x = new TramLines();
        for (int section : Check.outside(0, 10)) {
            Check.noSuchIndex("section " + section, () -> x.block(section, 0, 0));
            Check.noSuchIndex("section " + section + " before a minute", () -> x.block(section, 5, 4));
        }
        for (int block = 0; block < 6; block++) {
            x.block(10, 0, 0);
        }
        Check.noSuchIndex("section 11 when full", () -> x.block(11, 0, 0));
    }

    private static void blockedMinutesOutOfRange() {
        Check.sentence("block throws IllegalArgumentException if a minute is out of range");
        TramLines x = new TramLines();
        for (int minute : Check.outside(0, 2000)) {
            Check.badArgument("first " + minute, () -> x.block(0, minute, 2000));
            Check.badArgument("first and last " + minute, () -> x.block(0, minute, minute));
        }
        for (int minute : Check.outside(100, 2000)) {
            Check.badArgument("last " + minute, () -> x.block(0, 100, minute));
        }
        Check.badArgument("last before 0", () -> x.block(0, 0, -1));
        Check.badArgument("last before 2000", () -> x.block(0, 2000, 1999));
        Check.due("all the time", x.block(0, 0, 2000), 0);
        Check.due("the first minute", x.block(0, 0, 0), 1);
        Check.due("the last minute", x.block(0, 2000, 2000), 2);
        Check.due("from 100", x.block(0, 100, 100), 3);
        x.block(0, 0, 0);
        x.block(0, 0, 0);
        Check.badArgument("when full", () -> x.block(0, 1, 0));
    }

    private static void fullBlocks() {
        Check.sentence("block throws IllegalStateException if 6 blocks are kept");
        TramLines x = new TramLines();
        for (int block = 0; block < 5; block++) {
            x.block(block, 0, 0);
        }
        Check.due("with 5", x.block(5, 0, 0), 5);
        Check.badState("with 6", () -> x.block(6, 0, 0));
        x.unblock(3);
        Check.due("with 5 again", x.block(6, 0, 0), 5);
        Check.badState("with 6 again", () -> x.block(7, 0, 0));
    }

    private static void laterBlocksMoveUp() {
        Check.sentence("Removes a block. The numbers of the later ones decrease by 1.");
        for (int removed = 0; removed < 6; removed++) {
            TramLines x = trams(0);
            for (int block = 0; block < 6; block++) {
                x.block(block, 0, 100 * (block + 1));
            }
            x.unblock(removed);
            for (int section = 0; section < 6; section++) {
                int departure = x.actual(0, section, true);
                int free = section == removed ? departure : 100 * (section + 1) + 1;
                Check.due("section " + section + " without block " + removed, departure, free);
            }
            Check.due("section " + removed + " is free", x.actual(0, removed, true),
                    removed == 0 ? 0 : x.actual(0, removed, false));
            Check.noSuchIndex("the last number without block " + removed, () -> x.unblock(5));
            x.unblock(4);
            int last = removed == 5 ? 4 : 5;
            Check.due("the last one went then " + removed, x.actual(0, last, true), x.actual(0, last, false));
        }
    }

    private static void remainingBlocks() {
        Check.sentence("unblock returns the number of blocks that remain.");
        TramLines x = new TramLines();
        for (int block = 0; block < 6; block++) {
            x.block(0, 0, 0);
        }
        for (int left = 5; left >= 0; left--) {
            Check.due("left", x.unblock(left / 2), left);
            Check.due("counted", x.count(5), left);
        }
    }

    private static void noSuchBlock() {
        Check.sentence("unblock throws IndexOutOfBoundsException if there is no such block");
        TramLines x = new TramLines();
        for (int block : Check.outside(0, -1)) {
            Check.noSuchIndex("without blocks " + block, () -> x.unblock(block));
        }
        x.block(0, 0, 0);
        x.block(0, 0, 0);
        for (int block : Check.outside(0, 1)) {
            Check.noSuchIndex("with two blocks " + block, () -> x.unblock(block));
        }
        Check.due("the last one", x.unblock(1), 1);
        Check.noSuchIndex("again", () -> x.unblock(1));
    }

    private static void noSuchTripOfActual() {
        Check.sentence("actual throws IndexOutOfBoundsException if there is no such trip");
        TramLines x = trams(0, 5);
        for (int trip : Check.outside(0, 1)) {
            Check.noSuchIndex("actual(" + trip + ", 0, true)", () -> x.actual(trip, 0, true));
            Check.noSuchIndex("actual(" + trip + ", 12, false)", () -> x.actual(trip, 12, false));
        }
        Check.noSuchIndex("without trips", () -> new TramLines().actual(0, 0, true));
    }

    private static void noActualTime() {
        Check.sentence("actual throws NoSuchElementException if the stop is not on its way, it is the last one and the "
                + "departure is asked for, or the first one and the arrival is asked for; or if the trip is in no duty or "
                + "does not get there");
        TramLines x = new TramLines();
        x.setTurn(4, true);
        x.addVehicle(0);
        x.addTrip(0, 4, 10);
        x.addTrip(4, 0, 40);
        x.addTrip(0, 4, 70);
        x.addTrip(0, 4, 90);
        x.giveRound(0, 1, 0);
        x.give(2, 0);
        for (int trip = 0; trip < 2; trip++) {
            int asked = trip;
            for (int stop : Check.outside(0, 4)) {
                Check.noElement("trip " + trip + " from " + stop, () -> x.actual(asked, stop, true));
                Check.noElement("trip " + trip + " to " + stop, () -> x.actual(asked, stop, false));
            }
            Check.noElement("trip " + trip + " from 12", () -> x.actual(asked, 12, true));
        }
        Check.noElement("up from its last stop", () -> x.actual(0, 4, true));
        Check.noElement("up to its first stop", () -> x.actual(0, 0, false));
        Check.noElement("down from its last stop", () -> x.actual(1, 0, true));
        Check.noElement("down to its first stop", () -> x.actual(1, 4, false));
        Check.due("up to its last stop", x.actual(0, 4, false), 22);
        Check.due("up from its first stop", x.actual(0, 0, true), 10);
        Check.due("down to its last stop", x.actual(1, 0, false), 52);
        Check.due("down from its first stop", x.actual(1, 4, true), 40);
        Check.noElement("in no duty", () -> x.actual(3, 0, true));
        Check.noElement("in no duty, to the next stop", () -> x.actual(3, 1, false));
        x.cancel(2, true);
        Check.noElement("cancelled", () -> x.actual(2, 0, true));
        TramLines y = longDay(2000);
        Check.due("the last stop it gets to", y.actual(9, 1, false), 3000);
        Check.noElement("does not depart there", () -> y.actual(9, 1, true));
        Check.noElement("does not get there", () -> y.actual(9, 0, false));
    }

    private static void noSuchTripOfDelay() {
        Check.sentence("delay throws IndexOutOfBoundsException if there is no such trip");
        TramLines x = trams(0, 5);
        for (int trip : Check.outside(0, 1)) {
            Check.noSuchIndex("delay(" + trip + ")", () -> x.delay(trip));
        }
        Check.noSuchIndex("without trips", () -> new TramLines().delay(0));
    }

    private static void noDelay() {
        Check.sentence("delay throws NoSuchElementException if the trip is in no duty or does not arrive");
        TramLines x = trams(0);
        x.addTrip(0, 11, 0);
        Check.noElement("in no duty", () -> x.delay(1));
        x.take(0);
        Check.noElement("no longer in a duty", () -> x.delay(0));
        TramLines y = longDay(2000);
        Check.noElement("does not arrive", () -> y.delay(9));
        Check.noElement("behind one that does not arrive", () -> y.delay(10));
        Check.due("the one before arrives", y.delay(8), 2001);
        TramLines z = longDay(1999);
        Check.due("arrives behind 3000", z.delay(9), 2000);
    }

    private static void numbersOfRun() {
        Check.sentence("0 for the number of trips that arrive, 1 for that of the trips in duties that do not arrive, 2 for "
                + "the sum of the delays, 3 for the greatest delay, 0 if no trip arrives, 4 for the number of detours, 5 "
                + "for the minutes in which trams wait for the gap, 6 for those in which they wait for blocks");
        dueRun("of a new line", new TramLines(), 0, 0, 0, 0, 0, 0, 0);
        TramLines x = trams(100, 200);
        x.setSection(0, 9, 1);
        x.block(0, 100, 100);
        dueRun("of one too early, one in time", x, 2, 0, -8, 0, 1, 0, 0);
        x.block(0, 200, 200);
        dueRun("of two too early", x, 2, 0, -16, -8, 2, 0, 0);
        x.setSection(0, 9, 0);
        dueRun("of two that wait", x, 2, 0, 2, 1, 0, 0, 2);
        x.take(0);
        x.take(1);
        dueRun("without duties", x, 0, 0, 0, 0, 0, 0, 0);
    }

    private static void noSuchNumberOfRun() {
        Check.sentence("run throws IllegalArgumentException if what is not from 0 to 6");
        TramLines x = trams(0);
        for (int what : Check.outside(0, 6)) {
            Check.badArgument("run(" + what + ")", () -> x.run(what));
            Check.badArgument("of a new line: run(" + what + ")", () -> new TramLines().run(what));
        }
    }

    private static void actualBunchesBelowLeastHeadway() {
        Check.sentence("pairs of successive actual departures in the run whose difference is less than the least headway");
        TramLines x = trams(0, 4, 40);
        Check.due("just the least headway", x.actualBunches(0, 0), 0);
        x.set(1, 5);
        Check.due("a minute less", x.actualBunches(0, 0), 1);
        x.set(1, 30);
        Check.due("still the other one is not", x.actualBunches(0, 0), 1);
        x.block(0, 4, 10);
        Check.due("29 minutes between", x.actualBunches(0, 0), 2);
        Check.due("in the planned order", x.bunches(0, 0), 1);
        Check.due("at the last stop but one", x.actualBunches(0, 10), 2);
        Check.due("at the last stop", x.actualBunches(0, 11), 0);
        Check.due("in the other direction", x.actualBunches(1, 0), 0);
        x.take(1);
        Check.due("a trip in no duty does not depart", x.actualBunches(0, 0), 0);
        TramLines y = new TramLines();
        Check.due("without trips", y.actualBunches(0, 0), 0);
        y.addTrip(0, 11, 0);
        y.addTrip(0, 11, 0);
        Check.due("without duties", y.actualBunches(0, 0), 0);
    }

    private static void thirtyDepartures() {
        Check.sentence("At most 30 trips are kept (thirty departures)");
        TramLines x = new TramLines();
        x.setTurn(1, true);
        x.addVehicle(0);
        x.addVehicle(0);
        for (int trip = 0; trip < 30; trip++) {
            x.addTrip(trip / 2 % 2, 1 - trip / 2 % 2, 5 * (trip / 2) + trip % 2);
            x.give(trip, trip % 2);
        }
        Check.due("all arrive", x.run(0), 30);
        Check.due("up", x.actualBunches(0, 0), 8);
        Check.due("down", x.actualBunches(1, 1), 7);
        Check.due("the last one", x.actual(29, 0, true), 71);
        x.take(1);
        Check.due("up without the last one", x.actualBunches(0, 0), 7);
    }

    private static void noSuchPlaceOfActualBunches() {
        Check.sentence("actualBunches throws IndexOutOfBoundsException if there is no such direction or stop");
        TramLines x = trams(0);
        for (int direction : Check.outside(0, 1)) {
            Check.noSuchIndex("direction " + direction, () -> x.actualBunches(direction, 0));
        }
        for (int stop : Check.outside(0, 11)) {
            Check.noSuchIndex("stop " + stop, () -> x.actualBunches(0, stop));
        }
        Check.due("the last direction and stop", x.actualBunches(1, 11), 0);
    }

    private static void meanOfDelays() {
        Check.sentence("meanDelay returns the sum of the delays divided by their number, both as doubles.");
        TramLines x = trams(0, 50, 100);
        Check.dueDouble("in time", x.meanDelay(), 0.0);
        x.block(0, 100, 100);
        Check.dueDouble("a third", x.meanDelay(), 1.0 / 3.0);
        x.setSection(0, 3, 2);
        Check.dueDouble("minus a third", x.meanDelay(), -1.0 / 3.0);
        Check.dueDouble("of those that arrive alone", longDay(2000).meanDelay(), 2001.0);
    }

    private static void noMeanDelay() {
        Check.sentence("meanDelay throws ArithmeticException if no trip arrives");
        TramLines x = trams(0);
        Check.dueDouble("one", x.meanDelay(), 0.0);
        x.take(0);
        Check.noNumber("without duties", x::meanDelay);
        Check.noNumber("without trips", () -> new TramLines().meanDelay());
    }
}
