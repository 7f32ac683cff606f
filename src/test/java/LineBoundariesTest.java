/** The boundary cases of "Line", "Trips" and "Settings" and of the promises 1 to 9, a test for each sentence. */
public final class LineBoundariesTest {

    public static void main(String[] args) {
        stopsOfTheLine();
        minutesOfSections();
        detoursOfSections();
        sectionsAtFirst();
        turnsAtFirst();
        directions();
        endsAndDeparturesOfTrips();
        timesOnTheWay();
        mostTrips();
        activeOrCancelled();
        turnTimeSetting();
        leastHeadwaySetting();
        gapSetting();
        emptyLine();
        previousSection();
        noSuchSection();
        sectionTimesOutOfRange();
        sectionAgainstDuties();
        previousTurn();
        noSuchTurn();
        turnOfActiveTrip();
        previousSetting();
        noSuchSetting();
        settingOutOfRange();
        settingAgainstDuties();
        numberOfAddedTrip();
        noSuchStopForTrip();
        badTrip();
        fullTrips();
        cancelledInDuty();
        previousCancel();
        noSuchTripToCancel();
        cancelledWithoutTurn();
        numbersOfTrip();
        noSuchTripToAsk();
        noSuchNumberOfTrip();
        noSuchTripToPlan();
        stopNotOnTheWay();
        counted();
        noSuchCount();
        Check.finish();
    }

    private static void stopsOfTheLine() {
        Check.sentence("The line has 12 stops, 0 to 11, in a row");
        TramLines x = new TramLines();
        x.addTrip(0, 11, 100);
        for (int stop = 0; stop <= 11; stop++) {
            Check.due("planned(0, " + stop + ")", x.planned(0, stop), 100 + 3 * stop);
            Check.due("bunches(1, " + stop + ")", x.bunches(1, stop), 0);
        }
        for (int stop : Check.outside(0, 11)) {
            Check.noElement("planned(0, " + stop + ")", () -> x.planned(0, stop));
            Check.noSuchIndex("bunches(1, " + stop + ")", () -> x.bunches(1, stop));
        }
    }

    private static void minutesOfSections() {
        Check.sentence("section k lies between the stops k and k + 1, takes from 1 to 9 minutes in both directions");
        for (int section = 0; section <= 10; section++) {
            for (int minutes = 1; minutes <= 9; minutes += 8) {
                TramLines x = new TramLines();
                x.addTrip(0, 11, 100);
                x.addTrip(11, 0, 100);
                x.setSection(section, minutes, 0);
                String of = " with section " + section + " of " + minutes + " at ";
                for (int stop = 0; stop <= 11; stop++) {
                    int up = 3 * stop + (stop > section ? minutes - 3 : 0);
                    int down = 3 * (11 - stop) + (stop <= section ? minutes - 3 : 0);
                    Check.due("up" + of + stop, x.planned(0, stop), 100 + up);
                    Check.due("down" + of + stop, x.planned(1, stop), 100 + down);
                }
            }
        }
    }

    /** A trip up all the line, in the duty of a vehicle, that departs at 100 and is at each stop k at 100 + 3 k. */
    private static TramLines oneTram() {
        TramLines x = new TramLines();
        x.addTrip(0, 11, 100);
        x.addVehicle(0);
        x.give(0, 0);
        return x;
    }

    private static void detoursOfSections() {
        Check.sentence("has a detour time, 0 for no detour, or 1 to 30");
        TramLines x = oneTram();
        x.block(4, 100, 119);
        Check.due("no detour at first: it waits", x.actual(0, 4, true), 120);
        x.setSection(4, 3, 1);
        Check.due("a detour of 1", x.actual(0, 5, false), 112 + 1);
        x.setSection(4, 3, 30);
        Check.due("a detour of 30", x.actual(0, 5, false), 112 + 30);
        x.setSection(4, 3, 0);
        Check.due("0 for no detour: departs behind the block", x.actual(0, 4, true), 120);
        Check.due("0 for no detour: the section takes its time", x.actual(0, 5, false), 123);
        Check.due("0 for no detour: none is taken", x.run(4), 0);
    }

    private static void sectionsAtFirst() {
        Check.sentence("At first, each section takes 3 minutes and has no detour.");
        for (int section = 0; section <= 10; section++) {
            Check.due("section " + section, new TramLines().setSection(section, 9, 30), 30);
            TramLines x = oneTram();
            x.block(section, 0, 200);
            Check.due("without a detour " + section, x.actual(0, section, true), 201);
        }
        TramLines x = new TramLines();
        x.addTrip(11, 0, 0);
        Check.due("all the line", x.trip(0, 3), 33);
    }

    private static void turnsAtFirst() {
        Check.sentence("Trips can turn at the stops 0 and 11, and at others for which this is allowed, at first none.");
        TramLines x = new TramLines();
        Check.due("at first", x.count(6), 2);
        for (int stop = 1; stop <= 10; stop++) {
            int asked = stop;
            Check.badArgument("from " + stop, () -> x.addTrip(asked, 11, 5));
            Check.badArgument("to " + stop, () -> x.addTrip(0, asked, 5));
        }
        Check.due("from 0 to 11", x.addTrip(0, 11, 5), 0);
        Check.due("from 11 to 0", x.addTrip(11, 0, 5), 1);
        for (int stop = 1; stop <= 10; stop++) {
            Check.due("not before " + stop, x.setTurn(stop, true), false);
            Check.due("to " + stop, x.addTrip(0, stop, 5), 2 * stop);
            Check.due("from " + stop, x.addTrip(stop, 11, 5), 2 * stop + 1);
        }
        Check.due("at all", x.count(6), 12);
    }

    private static void directions() {
        Check.sentence("The direction of a trip is 0 if its stops ascend, and 1 if they descend.");
        TramLines x = new TramLines();
        x.setTurn(1, true);
        x.setTurn(10, true);
        int[][] ends = {{0, 11}, {0, 1}, {1, 10}, {10, 11}, {11, 0}, {1, 0}, {10, 1}, {11, 10}};
        for (int trip = 0; trip < ends.length; trip++) {
            x.addTrip(ends[trip][0], ends[trip][1], 7);
            Check.due("of " + ends[trip][0] + " to " + ends[trip][1], x.trip(trip, 4), trip < 4 ? 0 : 1);
        }
    }

    private static void endsAndDeparturesOfTrips() {
        Check.sentence("A trip has a first and a last stop, two different ones at which trips can turn, and a planned "
                + "departure from the first stop, 0 to 1439.");
        TramLines x = new TramLines();
        x.setTurn(5, true);
        Check.due("departure 0", x.addTrip(0, 11, 0), 0);
        Check.due("it departs at 0", x.planned(0, 0), 0);
        Check.due("departure 1439", x.addTrip(11, 0, 1439), 1);
        Check.due("it departs at 1439", x.planned(1, 11), 1439);
        for (int minute : Check.outside(0, 1439)) {
            Check.badArgument("departure " + minute, () -> x.addTrip(0, 11, minute));
        }
        int[] turns = {0, 5, 11};
        for (int stop : turns) {
            Check.badArgument("both " + stop, () -> x.addTrip(stop, stop, 0));
        }
        Check.badArgument("no turn at 4", () -> x.addTrip(4, 5, 0));
        Check.badArgument("no turn at 6", () -> x.addTrip(5, 6, 0));
        Check.due("turns at both", x.addTrip(5, 0, 0), 2);
    }

    private static void timesOnTheWay() {
        Check.sentence("It is planned to be at each next stop of its way after the minutes of the section between.");
        TramLines x = new TramLines();
        x.addTrip(0, 11, 1439);
        x.addTrip(11, 0, 1439);
        int[] minutes = {1, 9, 2, 8, 3, 7, 4, 6, 5, 9, 1};
        int all = 0;
        for (int section = 0; section <= 10; section++) {
            x.setSection(section, minutes[section], 30);
            all += minutes[section];
        }
        int up = 1439;
        int down = 1439 + all;
        for (int stop = 0; stop <= 11; stop++) {
            Check.due("up at " + stop, x.planned(0, stop), up);
            Check.due("down at " + stop, x.planned(1, stop), down);
            if (stop < 11) {
                up += minutes[stop];
                down -= minutes[stop];
            }
        }
        Check.due("beyond the day, and not at its begin again", x.trip(0, 3), 1439 + 55);
    }

    private static void mostTrips() {
        Check.sentence("At most 30 trips are kept, numbered from 0.");
        TramLines x = new TramLines();
        for (int trip = 0; trip < 30; trip++) {
            Check.due("trip " + trip, x.addTrip(0, 11, 20 + trip), trip);
        }
        Check.badState("one more", () -> x.addTrip(0, 11, 90));
        Check.due("the first one", x.trip(0, 2), 20);
        Check.due("the last one", x.trip(29, 2), 49);
        Check.due("their number", x.count(0), 30);
    }

    private static void activeOrCancelled() {
        Check.sentence("A trip is active or cancelled.");
        TramLines x = new TramLines();
        x.addTrip(0, 11, 5);
        Check.due("active at first", x.trip(0, 5), 0);
        x.cancel(0, true);
        Check.due("cancelled", x.trip(0, 5), 1);
        Check.due("it is kept", x.count(0), 1);
        Check.due("none is active", x.count(1), 0);
        x.cancel(0, false);
        Check.due("active again", x.trip(0, 5), 0);
        Check.due("one is active", x.count(1), 1);
    }

    private static void dueSetting(int setting, int least, int greatest, int atFirst) {
        TramLines x = new TramLines();
        String of = "set(" + setting + ", ";
        Check.due(of + "greatest), at first", x.set(setting, greatest), atFirst);
        for (int value : Check.outside(least, greatest)) {
            Check.badArgument(of + value + ")", () -> x.set(setting, value));
        }
        Check.due(of + "least)", x.set(setting, least), greatest);
        for (int value : Check.outside(least, greatest)) {
            Check.badArgument(of + value + ") again", () -> x.set(setting, value));
        }
        Check.due(of + "least) again", x.set(setting, least), least);
    }

    private static void turnTimeSetting() {
        Check.sentence("Setting 0 is the turn time, 0 to 20 and 2 at first");
        dueSetting(0, 0, 20, 2);
        TramLines x = new TramLines();
        x.addTrip(0, 11, 0);
        x.addTrip(11, 0, 34);
        x.addTrip(11, 0, 35);
        x.addTrip(11, 0, 33);
        Check.due("2 minutes at first", x.nextTrip(0), 2);
        x.set(0, 0);
        Check.due("no minute", x.nextTrip(0), 3);
        x.set(0, 20);
        Check.noElement("20 minutes", () -> x.nextTrip(0));
        x.addTrip(11, 0, 52);
        Check.noElement("19 are not enough", () -> x.nextTrip(0));
        x.addTrip(11, 0, 53);
        Check.due("20 are enough", x.nextTrip(0), 5);
    }

    private static void leastHeadwaySetting() {
        Check.sentence("setting 1 the least headway, 1 to 30 and 4 at first");
        dueSetting(1, 1, 30, 4);
        TramLines x = new TramLines();
        int[] minutes = {0, 3, 7, 7, 36, 66};
        for (int minute : minutes) {
            x.addTrip(0, 11, minute);
        }
        Check.due("of 3, 4, 0, 29 and 30 at first", x.bunches(0, 0), 2);
        x.set(1, 1);
        Check.due("below 1", x.bunches(0, 0), 1);
        x.set(1, 30);
        Check.due("below 30", x.bunches(0, 0), 4);
    }

    private static void gapSetting() {
        Check.sentence("setting 2 the gap, 0 to 10 and 1 at first");
        dueSetting(2, 0, 10, 1);
        TramLines x = oneTram();
        x.addTrip(0, 11, 100);
        x.addVehicle(0);
        x.give(1, 1);
        Check.due("a minute at first", x.actual(1, 0, true), 101);
        x.set(2, 0);
        Check.due("no minute", x.actual(1, 0, true), 100);
        x.set(2, 10);
        Check.due("10 minutes", x.actual(1, 0, true), 110);
    }

    private static void emptyLine() {
        Check.sentence("Creates a line without trips, vehicles and blocks.");
        TramLines x = new TramLines();
        int[] counts = {0, 0, 0, 0, 0, 0, 2};
        for (int what = 0; what <= 6; what++) {
            Check.due("count " + what, x.count(what), counts[what]);
            Check.due("run " + what, x.run(what), 0);
        }
        Check.noSuchIndex("no trip 0", () -> x.trip(0, 0));
        Check.noSuchIndex("no vehicle 0", () -> x.vehicle(0, 0));
        Check.noSuchIndex("no block 0", () -> x.unblock(0));
        Check.noElement("no passage 0", () -> x.passage(0, 0, 0, true));
        Check.noElement("none leaves", () -> x.leaving(0, 0));
        Check.noNumber("no delay", x::meanDelay);
        Check.due("no vehicle is needed by waiting", x.leastVehicles(true), 0);
        Check.due("no vehicle is needed by matching", x.leastVehicles(false), 0);
        Check.due("no cost", x.leastCost(1000), 0);
        Check.due("nothing to relink", x.relink(), 0);
    }

    private static void previousSection() {
        Check.sentence("Returns 10 times the previous minutes plus the previous detour time.");
        TramLines x = new TramLines();
        Check.due("at first", x.setSection(0, 1, 1), 30);
        Check.due("the least ones", x.setSection(0, 9, 30), 11);
        Check.due("the greatest ones", x.setSection(0, 9, 0), 120);
        Check.due("9 minutes without a detour", x.setSection(0, 1, 0), 90);
        Check.due("1 minute without a detour", x.setSection(0, 1, 0), 10);
        Check.due("another section", x.setSection(10, 3, 10), 30);
        Check.due("with a detour of 10", x.setSection(10, 3, 0), 40);
    }

    private static void noSuchSection() {
        Check.sentence("setSection throws IndexOutOfBoundsException if there is no such section");
        TramLines x = oneTram();
        for (int section : Check.outside(0, 10)) {
            Check.noSuchIndex("section " + section, () -> x.setSection(section, 3, 0));
            Check.noSuchIndex("section " + section + " before a time", () -> x.setSection(section, 0, 31));
        }
        Check.due("section 0", x.setSection(0, 3, 0), 30);
        Check.due("section 10", x.setSection(10, 3, 0), 30);
    }

    private static void sectionTimesOutOfRange() {
        Check.sentence("setSection throws IllegalArgumentException if a time is out of range");
        TramLines x = new TramLines();
        for (int minutes : Check.outside(1, 9)) {
            Check.badArgument("minutes " + minutes, () -> x.setSection(6, minutes, 0));
        }
        for (int detour : Check.outside(0, 30)) {
            Check.badArgument("detour " + detour, () -> x.setSection(6, 3, detour));
        }
        Check.badArgument("both", () -> x.setSection(6, 10, 31));
        Check.due("1 and 0", x.setSection(6, 1, 0), 30);
        Check.due("9 and 30", x.setSection(6, 9, 30), 10);
        TramLines y = tightDuty();
        Check.badArgument("a time before a duty", () -> y.setSection(0, 9, 31));
    }

    /** 0-11@10 arrives at 43, and 11-0@45 follows after just the turn time. */
    private static TramLines tightDuty() {
        TramLines x = new TramLines();
        x.addTrip(0, 11, 10);
        x.addTrip(11, 0, 45);
        x.addVehicle(1);
        x.addVehicle(0);
        x.give(0, 1);
        x.give(1, 1);
        return x;
    }

    private static void sectionAgainstDuties() {
        Check.sentence("setSection throws IllegalStateException if a duty would not be sound then");
        for (int section = 0; section <= 10; section++) {
            int asked = section;
            TramLines x = tightDuty();
            Check.badState("a minute more in " + section, () -> x.setSection(asked, 4, 0));
            Check.due("section " + section + " is as before", x.setSection(section, 3, 30), 30);
            Check.due("a minute less in " + section, x.setSection(section, 2, 0), 60);
            Check.due("just as long again in " + section, x.setSection(section, 3, 0), 20);
            x.take(1);
            Check.due("more without the second trip in " + section, x.setSection(section, 9, 0), 30);
        }
        TramLines x = new TramLines();
        x.setTurn(5, true);
        x.addTrip(0, 5, 0);
        x.addTrip(5, 0, 17);
        x.addVehicle(0);
        x.giveRound(0, 1, 0);
        Check.badState("a section of the way", () -> x.setSection(4, 4, 0));
        Check.due("a section that is not on the way", x.setSection(5, 9, 0), 30);
    }

    private static void previousTurn() {
        Check.sentence("setTurn returns whether it was allowed before.");
        TramLines x = new TramLines();
        int[] stops = {1, 10};
        for (int stop : stops) {
            Check.due("not at first " + stop, x.setTurn(stop, false), false);
            Check.due("still not " + stop, x.setTurn(stop, true), false);
            Check.due("then allowed " + stop, x.setTurn(stop, true), true);
            Check.due("still allowed " + stop, x.setTurn(stop, false), true);
            Check.due("not again " + stop, x.setTurn(stop, false), false);
        }
    }

    private static void noSuchTurn() {
        Check.sentence("setTurn throws IndexOutOfBoundsException if stop is not from 1 to 10");
        TramLines x = new TramLines();
        x.addTrip(0, 11, 5);
        int[] wrong = {0, 11, -1, 12, Integer.MIN_VALUE, Integer.MAX_VALUE};
        for (int stop : wrong) {
            Check.noSuchIndex("to be allowed at " + stop, () -> x.setTurn(stop, true));
            Check.noSuchIndex("not to be allowed at " + stop, () -> x.setTurn(stop, false));
        }
        Check.due("at 1", x.setTurn(1, true), false);
        Check.due("at 10", x.setTurn(10, true), false);
        Check.due("turns", x.count(6), 4);
    }

    private static void turnOfActiveTrip() {
        Check.sentence("setTurn throws IllegalStateException if it is not to be allowed, and the stop is the first or "
                + "last one of an active trip");
        TramLines x = new TramLines();
        x.setTurn(1, true);
        x.setTurn(10, true);
        x.setTurn(5, true);
        for (int trip = 0; trip < 29; trip++) {
            x.addTrip(0, 11, trip);
        }
        x.addTrip(1, 10, 29);
        Check.badState("the first stop of the last trip", () -> x.setTurn(1, false));
        Check.badState("the last stop of the last trip", () -> x.setTurn(10, false));
        Check.due("to be allowed", x.setTurn(1, true), true);
        Check.due("a stop on the way", x.setTurn(5, false), true);
        x.cancel(29, true);
        Check.due("the first stop of a cancelled trip", x.setTurn(1, false), true);
        Check.due("the last stop of a cancelled trip", x.setTurn(10, false), true);
        TramLines y = new TramLines();
        y.setTurn(5, true);
        y.addTrip(0, 5, 0);
        Check.badState("the last stop of the first trip", () -> y.setTurn(5, false));
    }

    private static void previousSetting() {
        Check.sentence("set returns the previous value.");
        TramLines x = new TramLines();
        Check.due("turn time", x.set(0, 20), 2);
        Check.due("least headway", x.set(1, 30), 4);
        Check.due("gap", x.set(2, 10), 1);
        Check.due("turn time then", x.set(0, 20), 20);
        Check.due("least headway then", x.set(1, 1), 30);
        Check.due("gap then", x.set(2, 0), 10);
        Check.due("turn time at last", x.set(0, 0), 20);
        Check.due("least headway at last", x.set(1, 4), 1);
        Check.due("gap at last", x.set(2, 1), 0);
    }

    private static void noSuchSetting() {
        Check.sentence("set throws IndexOutOfBoundsException if there is no such setting");
        TramLines x = tightDuty();
        for (int setting : Check.outside(0, 2)) {
            Check.noSuchIndex("setting " + setting, () -> x.set(setting, 2));
            Check.noSuchIndex("setting " + setting + " before its value", () -> x.set(setting, -1));
        }
    }

    private static void settingOutOfRange() {
        Check.sentence("set throws IllegalArgumentException if the value is out of range");
        int[] greatest = {20, 30, 10};
        TramLines x = tightDuty();
        for (int setting = 0; setting < 3; setting++) {
            int asked = setting;
            for (int value : Check.outside(setting == 1 ? 1 : 0, greatest[setting])) {
                Check.badArgument("setting " + setting + " before a duty " + value, () -> x.set(asked, value));
            }
        }
        Check.due("the turn time is as before", x.set(0, 2), 2);
    }

    private static void settingAgainstDuties() {
        Check.sentence("set throws IllegalStateException if a duty would not be sound then");
        TramLines x = tightDuty();
        Check.badState("a minute more", () -> x.set(0, 3));
        Check.badState("the greatest turn time", () -> x.set(0, 20));
        Check.due("just the turn time", x.set(0, 2), 2);
        Check.due("no turn time", x.set(0, 0), 2);
        Check.due("just the turn time again", x.set(0, 2), 0);
        Check.due("the least headway is no matter", x.set(1, 30), 4);
        Check.due("the gap is no matter", x.set(2, 10), 1);
        x.take(1);
        Check.due("with one trip", x.set(0, 20), 2);
    }

    private static void numberOfAddedTrip() {
        Check.sentence("addTrip returns the number of the trip.");
        TramLines x = new TramLines();
        Check.due("the first one", x.addTrip(0, 11, 0), 0);
        Check.badArgument("a refused one", () -> x.addTrip(0, 0, 0));
        Check.due("the second one", x.addTrip(0, 11, 0), 1);
        x.cancel(1, true);
        Check.due("behind a cancelled one", x.addTrip(0, 11, 0), 2);
        x.undo();
        Check.due("again behind an undo", x.addTrip(0, 11, 7), 2);
        for (int trip = 3; trip < 29; trip++) {
            x.addTrip(0, 11, 0);
        }
        Check.due("the thirtieth one", x.addTrip(0, 11, 0), 29);
    }

    private static void noSuchStopForTrip() {
        Check.sentence("addTrip throws IndexOutOfBoundsException if there is no such stop");
        TramLines x = new TramLines();
        for (int stop : Check.outside(0, 11)) {
            Check.noSuchIndex("from " + stop, () -> x.addTrip(stop, 11, 5));
            Check.noSuchIndex("to " + stop, () -> x.addTrip(0, stop, 5));
            Check.noSuchIndex("from and to " + stop, () -> x.addTrip(stop, stop, 5));
            Check.noSuchIndex("to " + stop + " before the departure", () -> x.addTrip(0, stop, 1440));
            Check.noSuchIndex("to " + stop + " before no turn", () -> x.addTrip(5, stop, 5));
        }
        Check.due("none was added", x.count(0), 0);
    }

    private static void badTrip() {
        Check.sentence("addTrip throws IllegalArgumentException if the stops are the same, trips cannot turn at one of "
                + "them, or the departure is out of range");
        TramLines x = new TramLines();
        x.setTurn(1, true);
        for (int minute : Check.outside(0, 1439)) {
            Check.badArgument("at " + minute, () -> x.addTrip(0, 11, minute));
        }
        Check.badArgument("from 0 to 0", () -> x.addTrip(0, 0, 5));
        Check.badArgument("from 11 to 11", () -> x.addTrip(11, 11, 5));
        Check.badArgument("from 1 to 1", () -> x.addTrip(1, 1, 5));
        Check.badArgument("from 2", () -> x.addTrip(2, 1, 5));
        Check.badArgument("to 2", () -> x.addTrip(1, 2, 5));
        x.setTurn(1, false);
        Check.badArgument("no longer to 1", () -> x.addTrip(0, 1, 5));
        Check.due("none was added", x.count(0), 0);
    }

    private static void fullTrips() {
        Check.sentence("addTrip throws IllegalStateException if 30 trips are kept");
        TramLines x = new TramLines();
        for (int trip = 0; trip < 29; trip++) {
            x.addTrip(0, 11, trip);
        }
        Check.due("with 29", x.addTrip(11, 0, 1439), 29);
        Check.badState("with 30", () -> x.addTrip(0, 11, 50));
        x.cancel(0, true);
        Check.badState("with 29 active ones", () -> x.addTrip(0, 11, 50));
        Check.badArgument("bad departure first", () -> x.addTrip(0, 11, 1440));
        Check.badArgument("same stops first", () -> x.addTrip(0, 0, 50));
        Check.noSuchIndex("no such stop first", () -> x.addTrip(0, 12, 50));
        x.undo();
        x.undo();
        Check.due("with 29 again", x.addTrip(0, 11, 50), 29);
    }

    /** 0: 0-11@0, 1: 11-0@40, 2: 0-11@80, 3: 11-0@120, all of vehicle 0, and 4: 0-11@0 of vehicle 1. */
    private static TramLines longDuty() {
        TramLines x = new TramLines();
        for (int trip = 0; trip < 4; trip++) {
            x.addTrip(trip % 2 == 0 ? 0 : 11, trip % 2 == 0 ? 11 : 0, 40 * trip);
        }
        x.addTrip(0, 11, 0);
        x.addVehicle(0);
        x.addVehicle(0);
        for (int trip = 0; trip < 4; trip++) {
            x.give(trip, 0);
        }
        x.give(4, 1);
        return x;
    }

    private static void cancelledInDuty() {
        Check.sentence("A trip that is cancelled and all trips behind it in its duty are taken out of the duty.");
        for (int trip = 0; trip < 4; trip++) {
            TramLines x = longDuty();
            x.cancel(trip, true);
            Check.due("left by " + trip, x.vehicle(0, 1), trip);
            for (int other = 0; other < 4; other++) {
                Check.due("vehicle of " + other + " behind " + trip, x.trip(other, 6), other < trip ? 0 : -1);
                Check.due("whether " + other + " is cancelled by " + trip, x.trip(other, 5), other == trip ? 1 : 0);
            }
            Check.due("the other duty", x.vehicle(1, 1), 1);
            x.cancel(trip, false);
            Check.due("it does not come back " + trip, x.vehicle(0, 1), trip);
        }
        TramLines x = longDuty();
        x.cancel(1, false);
        Check.due("made active, as it is", x.vehicle(0, 1), 4);
        x.take(1);
        x.cancel(4, true);
        Check.due("one in no duty", x.count(2), 4);
    }

    private static void previousCancel() {
        Check.sentence("cancel returns whether it was cancelled before.");
        TramLines x = longDuty();
        Check.due("active, to be active", x.cancel(1, false), false);
        Check.due("active, to be cancelled", x.cancel(1, true), false);
        Check.due("cancelled, to be cancelled", x.cancel(1, true), true);
        Check.due("cancelled, to be active", x.cancel(1, false), true);
        Check.due("active again", x.cancel(1, false), false);
    }

    private static void noSuchTripToCancel() {
        Check.sentence("cancel throws IndexOutOfBoundsException if there is no such trip");
        TramLines x = new TramLines();
        Check.noSuchIndex("without trips", () -> x.cancel(0, true));
        x.addTrip(0, 11, 0);
        x.addTrip(0, 11, 0);
        for (int trip : Check.outside(0, 1)) {
            Check.noSuchIndex("cancel(" + trip + ", true)", () -> x.cancel(trip, true));
            Check.noSuchIndex("cancel(" + trip + ", false)", () -> x.cancel(trip, false));
        }
        x.undo();
        Check.noSuchIndex("of an undone trip", () -> x.cancel(1, true));
        Check.due("the last one", x.cancel(0, true), false);
    }

    private static void cancelledWithoutTurn() {
        Check.sentence("cancel throws IllegalStateException if it is to be active again and trips cannot turn at one of "
                + "its stops");
        TramLines x = new TramLines();
        x.setTurn(4, true);
        x.setTurn(6, true);
        x.addTrip(4, 6, 0);
        x.addTrip(0, 11, 0);
        x.cancel(0, true);
        x.cancel(1, true);
        x.setTurn(4, false);
        Check.badState("not at its first stop", () -> x.cancel(0, false));
        Check.due("but to be cancelled", x.cancel(0, true), true);
        x.setTurn(4, true);
        x.setTurn(6, false);
        Check.badState("not at its last stop", () -> x.cancel(0, false));
        x.setTurn(4, false);
        Check.badState("at none of them", () -> x.cancel(0, false));
        Check.due("not at stops on the way", x.cancel(1, false), true);
        x.setTurn(4, true);
        x.setTurn(6, true);
        Check.due("at both of them", x.cancel(0, false), true);
    }

    private static void numbersOfTrip() {
        Check.sentence("0 for its first stop, 1 for its last stop, 2 for its planned departure, 3 for its planned "
                + "arrival at its last stop, 4 for its direction, 5 for 1 if it is cancelled and 0 otherwise, 6 for its "
                + "vehicle, -1 if it is in no duty");
        TramLines x = longDuty();
        int[] first = {0, 11, 0, 33, 0, 0, 0};
        int[] other = {0, 11, 0, 33, 0, 0, 1};
        int[] back = {11, 0, 120, 153, 1, 1, -1};
        x.cancel(3, true);
        for (int what = 0; what <= 6; what++) {
            Check.due("trip(0, " + what + ")", x.trip(0, what), first[what]);
            Check.due("trip(4, " + what + ")", x.trip(4, what), other[what]);
            Check.due("trip(3, " + what + ")", x.trip(3, what), back[what]);
        }
        x.take(1);
        Check.due("in no duty", x.trip(4, 6), -1);
    }

    private static void noSuchTripToAsk() {
        Check.sentence("trip throws IndexOutOfBoundsException if there is no such trip");
        TramLines x = longDuty();
        for (int trip : Check.outside(0, 4)) {
            Check.noSuchIndex("trip(" + trip + ", 0)", () -> x.trip(trip, 0));
            Check.noSuchIndex("trip(" + trip + ", 7)", () -> x.trip(trip, 7));
        }
        Check.noSuchIndex("without trips", () -> new TramLines().trip(0, 0));
    }

    private static void noSuchNumberOfTrip() {
        Check.sentence("trip throws IllegalArgumentException if what is not from 0 to 6");
        TramLines x = longDuty();
        for (int what : Check.outside(0, 6)) {
            Check.badArgument("trip(4, " + what + ")", () -> x.trip(4, what));
        }
    }

    private static void noSuchTripToPlan() {
        Check.sentence("planned throws IndexOutOfBoundsException if there is no such trip");
        TramLines x = longDuty();
        for (int trip : Check.outside(0, 4)) {
            Check.noSuchIndex("planned(" + trip + ", 0)", () -> x.planned(trip, 0));
            Check.noSuchIndex("planned(" + trip + ", 12)", () -> x.planned(trip, 12));
        }
        Check.noSuchIndex("without trips", () -> new TramLines().planned(0, 0));
    }

    private static void stopNotOnTheWay() {
        Check.sentence("planned throws NoSuchElementException if the stop is not on its way");
        TramLines x = new TramLines();
        x.setTurn(3, true);
        x.setTurn(4, true);
        x.addTrip(3, 4, 10);
        x.addTrip(4, 3, 10);
        for (int trip = 0; trip < 2; trip++) {
            int asked = trip;
            for (int stop : Check.outside(3, 4)) {
                Check.noElement("planned(" + trip + ", " + stop + ")", () -> x.planned(asked, stop));
            }
            Check.noElement("planned(" + trip + ", -1)", () -> x.planned(asked, -1));
            Check.noElement("planned(" + trip + ", 12)", () -> x.planned(asked, 12));
        }
        Check.due("up at its first stop", x.planned(0, 3), 10);
        Check.due("up at its last stop", x.planned(0, 4), 13);
        Check.due("down at its first stop", x.planned(1, 4), 10);
        Check.due("down at its last stop", x.planned(1, 3), 13);
    }

    private static void dueCounts(String what, TramLines x, int... counts) {
        for (int number = 0; number <= 6; number++) {
            Check.due(what + " count " + number, x.count(number), counts[number]);
        }
    }

    private static void counted() {
        Check.sentence("0 for the trips, 1 for the active ones, 2 for those in duties, 3 for the vehicles, 4 for those "
                + "with a duty, 5 for the blocks, 6 for the stops at which trips can turn");
        dueCounts("of none", new TramLines(), 0, 0, 0, 0, 0, 0, 2);
        TramLines x = longDuty();
        x.addVehicle(1);
        x.setTurn(7, true);
        dueCounts("of a few", x, 5, 5, 5, 3, 2, 0, 3);
        x.cancel(1, true);
        x.block(0, 0, 0);
        dueCounts("with a cancelled one", x, 5, 4, 2, 3, 2, 1, 3);
        TramLines y = new TramLines();
        for (int trip = 0; trip < 30; trip++) {
            y.addTrip(0, 11, 40 * trip);
        }
        for (int vehicle = 0; vehicle < 10; vehicle++) {
            y.addVehicle(0);
            y.give(vehicle, vehicle);
        }
        for (int block = 0; block < 6; block++) {
            y.block(0, 0, 0);
        }
        for (int stop = 1; stop <= 10; stop++) {
            y.setTurn(stop, true);
        }
        dueCounts("of all", y, 30, 30, 10, 10, 10, 6, 12);
    }

    private static void noSuchCount() {
        Check.sentence("count throws IllegalArgumentException if what is not from 0 to 6");
        TramLines x = longDuty();
        for (int what : Check.outside(0, 6)) {
            Check.badArgument("count(" + what + ")", () -> x.count(what));
        }
    }
}
