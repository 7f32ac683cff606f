/** Promises 1 to 9: a new object, sections, turns, settings and trips. */
public final class LineAndTripsTest {

    public static void main(String[] args) {
        newObject();
        sections();
        sectionsUnderDuties();
        turns();
        settings();
        settingsUnderDuties();
        addedTrips();
        fullTrips();
        cancelledTrips();
        cancelledTripsInDuties();
        numbersOfTrips();
        plannedTimes();
        counts();
        Check.finish();
    }

    /** 0-11@10 arrives at 43, and 11-0@45 follows after just the turn time. */
    private static TramLines tightDuty() {
        TramLines x = new TramLines();
        x.addTrip(0, 11, 10);
        x.addTrip(11, 0, 45);
        x.addVehicle(0);
        x.give(0, 0);
        x.give(1, 0);
        return x;
    }

    private static void newObject() {
        TramLines x = new TramLines();
        for (int what = 0; what <= 5; what++) {
            Check.due("new count " + what, x.count(what), 0);
        }
        Check.due("new count 6", x.count(6), 2);
        for (int what = 0; what <= 6; what++) {
            Check.due("new run " + what, x.run(what), 0);
        }
        Check.due("new faultPosition", x.faultPosition(), -1);
        Check.noElement("new refusal", x::refusal);
        Check.badState("new undo", x::undo);
        Check.badState("new restore", x::restore);
        for (int section = 0; section < 11; section++) {
            Check.due("new section " + section, x.setSection(section, 3, 0), 30);
        }
        for (int stop = 1; stop <= 10; stop++) {
            Check.due("new turn " + stop, x.setTurn(stop, false), false);
        }
        Check.due("new turn time", x.set(0, 2), 2);
        Check.due("new least headway", x.set(1, 4), 4);
        Check.due("new gap", x.set(2, 1), 1);
        TramLines other = new TramLines();
        x.addTrip(0, 11, 0);
        Check.due("objects have nothing in common", other.count(0), 0);
    }

    private static void sections() {
        TramLines x = new TramLines();
        x.addTrip(0, 11, 100);
        x.addTrip(11, 0, 200);
        Check.due("setSection(4, 9, 30)", x.setSection(4, 9, 30), 30);
        Check.due("setSection(4, 1, 5)", x.setSection(4, 1, 5), 120);
        Check.due("setSection(4, 8, 0)", x.setSection(4, 8, 0), 15);
        Check.due("up before the section", x.planned(0, 4), 112);
        Check.due("up behind the section", x.planned(0, 5), 120);
        Check.due("up at the end", x.trip(0, 3), 138);
        Check.due("down before the section", x.planned(1, 5), 218);
        Check.due("down behind the section", x.planned(1, 4), 226);
        Check.due("setSection(0, 1, 0)", x.setSection(0, 1, 0), 30);
        Check.due("setSection(10, 9, 30)", x.setSection(10, 9, 30), 30);
        Check.due("up with three", x.trip(0, 3), 142);

        Check.noSuchIndex("setSection(-1, 3, 0)", () -> x.setSection(-1, 3, 0));
        Check.noSuchIndex("setSection(11, 3, 0)", () -> x.setSection(11, 3, 0));
        Check.noSuchIndex("setSection(11, 0, 99)", () -> x.setSection(11, 0, 99));
        Check.badArgument("minutes 0", () -> x.setSection(3, 0, 0));
        Check.badArgument("minutes 10", () -> x.setSection(3, 10, 0));
        Check.badArgument("detour -1", () -> x.setSection(3, 3, -1));
        Check.badArgument("detour 31", () -> x.setSection(3, 3, 31));
        Check.badArgument("least minutes", () -> x.setSection(3, Integer.MIN_VALUE, 0));
        Check.badArgument("greatest detour", () -> x.setSection(3, 3, Integer.MAX_VALUE));
        Check.due("refused sections change nothing", x.setSection(3, 3, 0), 30);
    }

    private static void sectionsUnderDuties() {
        TramLines x = tightDuty();
        Check.badState("longer section in a tight duty", () -> x.setSection(0, 4, 0));
        Check.badState("longer section at the end", () -> x.setSection(10, 9, 0));
        Check.badArgument("range before duty", () -> x.setSection(0, 10, 0));
        Check.due("arrival as before", x.trip(0, 3), 43);
        Check.due("detours do not count for duties", x.setSection(0, 3, 30), 30);
        Check.due("shorter section", x.setSection(1, 2, 0), 30);
        Check.due("longer one for it", x.setSection(0, 4, 0), 60);
        Check.badState("no longer one again", () -> x.setSection(1, 3, 0));
        x.take(0);
        Check.due("longer without the duty", x.setSection(1, 9, 0), 20);
        Check.due("later arrival", x.trip(0, 3), 50);
    }

    private static void turns() {
        TramLines x = new TramLines();
        Check.noSuchIndex("setTurn(0, true)", () -> x.setTurn(0, true));
        Check.noSuchIndex("setTurn(11, false)", () -> x.setTurn(11, false));
        Check.noSuchIndex("setTurn(-1, true)", () -> x.setTurn(-1, true));
        Check.noSuchIndex("setTurn(12, true)", () -> x.setTurn(12, true));
        Check.due("setTurn(1, true)", x.setTurn(1, true), false);
        Check.due("setTurn(1, true) again", x.setTurn(1, true), true);
        Check.due("setTurn(10, true)", x.setTurn(10, true), false);
        Check.due("setTurn(5, true)", x.setTurn(5, true), false);
        Check.due("turns", x.count(6), 5);
        Check.due("from 1 to 5", x.addTrip(1, 5, 7), 0);
        Check.badState("1 is a first stop", () -> x.setTurn(1, false));
        Check.badState("5 is a last stop", () -> x.setTurn(5, false));
        Check.due("10 is none", x.setTurn(10, false), true);
        Check.due("allowing at an end of a trip", x.setTurn(5, true), true);
        x.addTrip(0, 11, 3);
        Check.due("a stop on the way is no end", x.setTurn(3, false), false);
        x.cancel(0, true);
        Check.due("a cancelled trip does not count", x.setTurn(1, false), true);
        Check.due("nor at its last stop", x.setTurn(5, false), true);
        Check.due("turns in the end", x.count(6), 2);
    }

    private static void settings() {
        TramLines x = new TramLines();
        Check.noSuchIndex("set(-1, 5)", () -> x.set(-1, 5));
        Check.noSuchIndex("set(3, 5)", () -> x.set(3, 5));
        Check.noSuchIndex("set(3, -5)", () -> x.set(3, -5));
        int[] least = {0, 1, 0};
        int[] greatest = {20, 30, 10};
        int[] before = {2, 4, 1};
        for (int setting = 0; setting < 3; setting++) {
            int asked = setting;
            Check.badArgument("too low " + setting, () -> x.set(asked, least[asked] - 1));
            Check.badArgument("too high " + setting, () -> x.set(asked, greatest[asked] + 1));
            Check.due("to the least " + setting, x.set(setting, least[setting]), before[setting]);
            Check.due("to the greatest " + setting, x.set(setting, greatest[setting]), least[setting]);
            Check.due("as it is " + setting, x.set(setting, greatest[setting]), greatest[setting]);
        }
    }

    private static void settingsUnderDuties() {
        TramLines x = tightDuty();
        Check.badState("turn time 3", () -> x.set(0, 3));
        Check.badArgument("range before duty", () -> x.set(0, 21));
        Check.due("turn time is as before", x.set(0, 1), 2);
        Check.due("turn time 2 is just possible", x.set(0, 2), 1);
        Check.due("least headway does not matter", x.set(1, 30), 4);
        Check.due("gap does not matter", x.set(2, 10), 1);
        x.take(0);
        Check.due("turn time without the duty", x.set(0, 20), 2);
    }

    private static void addedTrips() {
        TramLines x = new TramLines();
        Check.noSuchIndex("first -1", () -> x.addTrip(-1, 11, 0));
        Check.noSuchIndex("first 12", () -> x.addTrip(12, 0, 0));
        Check.noSuchIndex("last -1", () -> x.addTrip(0, -1, 0));
        Check.noSuchIndex("last 12", () -> x.addTrip(0, 12, 0));
        Check.noSuchIndex("stop before departure", () -> x.addTrip(0, 12, -1));
        Check.badArgument("same stops", () -> x.addTrip(0, 0, 0));
        Check.badArgument("no turn at the first", () -> x.addTrip(5, 11, 0));
        Check.badArgument("no turn at the last", () -> x.addTrip(0, 5, 0));
        Check.badArgument("departure -1", () -> x.addTrip(0, 11, -1));
        Check.badArgument("departure 1440", () -> x.addTrip(0, 11, 1440));
        Check.due("none was added", x.count(0), 0);
        Check.due("departure 0", x.addTrip(0, 11, 0), 0);
        Check.due("departure 1439", x.addTrip(11, 0, 1439), 1);
        x.setTurn(5, true);
        x.setTurn(6, true);
        Check.due("a short one", x.addTrip(5, 6, 70), 2);
        Check.due("an equal one", x.addTrip(5, 6, 70), 3);
        Check.badArgument("same stops inside", () -> x.addTrip(5, 5, 0));
        Check.due("added", x.count(0), 4);
        Check.due("active", x.count(1), 4);
    }

    private static void fullTrips() {
        TramLines x = new TramLines();
        for (int number = 0; number < 30; number++) {
            Check.due("trip " + number, x.addTrip(0, 11, number), number);
        }
        Check.badState("trip 30", () -> x.addTrip(0, 11, 40));
        Check.badArgument("argument before state", () -> x.addTrip(0, 0, 40));
        Check.noSuchIndex("index before state", () -> x.addTrip(0, 12, 40));
        x.cancel(7, true);
        Check.badState("cancelled trips are kept", () -> x.addTrip(0, 11, 40));
        Check.due("thirty", x.count(0), 30);
        Check.due("the last one", x.trip(29, 2), 29);
        Check.noSuchIndex("no trip 30", () -> x.trip(30, 2));
    }

    private static void cancelledTrips() {
        TramLines x = new TramLines();
        Check.noSuchIndex("cancel(0, true) without trips", () -> x.cancel(0, true));
        x.setTurn(4, true);
        x.setTurn(6, true);
        x.addTrip(4, 11, 10);
        x.addTrip(0, 6, 10);
        Check.noSuchIndex("cancel(-1, true)", () -> x.cancel(-1, true));
        Check.noSuchIndex("cancel(2, false)", () -> x.cancel(2, false));
        Check.due("active as it is", x.cancel(0, false), false);
        Check.due("cancelled", x.cancel(0, true), false);
        Check.due("cancelled again", x.cancel(0, true), true);
        Check.due("one is active", x.count(1), 1);
        Check.due("two are kept", x.count(0), 2);
        x.setTurn(4, false);
        Check.badState("no turn at its first stop", () -> x.cancel(0, false));
        Check.due("cancelled without a turn", x.cancel(0, true), true);
        x.setTurn(4, true);
        Check.due("active again", x.cancel(0, false), true);
        x.cancel(1, true);
        x.setTurn(6, false);
        Check.badState("no turn at its last stop", () -> x.cancel(1, false));
        Check.due("it is still cancelled", x.trip(1, 5), 1);
    }

    private static void cancelledTripsInDuties() {
        TramLines x = tightDuty();
        x.addTrip(0, 11, 100);
        x.give(2, 0);
        Check.due("three trips", x.vehicle(0, 1), 3);
        Check.due("active as it is", x.cancel(1, false), false);
        Check.due("it stays in the duty", x.vehicle(0, 1), 3);
        Check.due("the middle one", x.cancel(1, true), false);
        Check.due("one is left", x.vehicle(0, 1), 1);
        Check.due("it is the first one", x.duty(0, 0), 0);
        Check.due("the cancelled one is out", x.trip(1, 6), -1);
        Check.due("the one behind is out", x.trip(2, 6), -1);
        Check.due("but active", x.trip(2, 5), 0);
        x.cancel(1, false);
        Check.due("it does not come back", x.vehicle(0, 1), 1);
        x.cancel(0, true);
        Check.due("the first one", x.vehicle(0, 1), 0);
    }

    private static void numbersOfTrips() {
        TramLines x = new TramLines();
        x.setTurn(8, true);
        x.setSection(7, 9, 0);
        x.addTrip(8, 0, 1400);
        x.addTrip(0, 8, 5);
        x.addVehicle(1);
        x.addVehicle(0);
        x.give(1, 1);
        int[] down = {8, 0, 1400, 1430, 1, 0, -1};
        int[] up = {0, 8, 5, 35, 0, 0, 1};
        for (int what = 0; what <= 6; what++) {
            Check.due("down " + what, x.trip(0, what), down[what]);
            Check.due("up " + what, x.trip(1, what), up[what]);
        }
        x.cancel(1, true);
        Check.due("cancelled", x.trip(1, 5), 1);
        Check.due("without a vehicle", x.trip(1, 6), -1);
        Check.due("its arrival", x.trip(1, 3), 35);
        Check.badArgument("what -1", () -> x.trip(0, -1));
        Check.badArgument("what 7", () -> x.trip(0, 7));
        Check.noSuchIndex("trip -1", () -> x.trip(-1, 0));
        Check.noSuchIndex("trip 2", () -> x.trip(2, 0));
        Check.noSuchIndex("trip before what", () -> x.trip(2, 9));
    }

    private static void plannedTimes() {
        TramLines x = new TramLines();
        x.setTurn(3, true);
        x.setTurn(7, true);
        x.setSection(3, 1, 0);
        x.setSection(6, 9, 0);
        x.addTrip(3, 7, 100);
        x.addTrip(7, 3, 200);
        int[] up = {100, 101, 104, 107, 116};
        int[] down = {216, 215, 212, 209, 200};
        for (int stop = 3; stop <= 7; stop++) {
            Check.due("up at " + stop, x.planned(0, stop), up[stop - 3]);
            Check.due("down at " + stop, x.planned(1, stop), down[stop - 3]);
        }
        for (int trip = 0; trip < 2; trip++) {
            int asked = trip;
            Check.noElement("stop 2", () -> x.planned(asked, 2));
            Check.noElement("stop 8", () -> x.planned(asked, 8));
            Check.noElement("stop -1", () -> x.planned(asked, -1));
            Check.noElement("stop 12", () -> x.planned(asked, 12));
        }
        Check.noSuchIndex("trip -1", () -> x.planned(-1, 3));
        Check.noSuchIndex("trip 2", () -> x.planned(2, 50));
        x.cancel(0, true);
        Check.due("of a cancelled one", x.planned(0, 7), 116);
    }

    private static void counts() {
        TramLines x = tightDuty();
        x.addTrip(0, 11, 20);
        x.addTrip(0, 11, 30);
        x.cancel(3, true);
        x.addVehicle(1);
        x.addVehicle(0);
        x.give(2, 2);
        x.block(4, 0, 0);
        x.block(4, 0, 0);
        x.setTurn(9, true);
        int[] want = {4, 3, 3, 3, 2, 2, 3};
        for (int what = 0; what <= 6; what++) {
            Check.due("count " + what, x.count(what), want[what]);
        }
        Check.badArgument("count(-1)", () -> x.count(-1));
        Check.badArgument("count(7)", () -> x.count(7));
    }
}
