import java.util.function.Function;

/**
 * Makes runs of calls on a TramLines and on a Model and compares each answer. The arguments come from a row of numbers
 * that is computed from the number of the run, so that each run is always the same.
 */
public final class ModelTest {

    private static final int RUNS = 500;
    private static final int CALLS = 420;
    private static final int CALLS_BEFORE_SWEEP = 120;
    private static final int[] STRANGE = {-1, -2, 12, 13, 31, 1440, 2001, Integer.MAX_VALUE, Integer.MIN_VALUE};

    private long numbers;
    private final TramLines program = new TramLines();
    private final Model model = new Model();
    private final StringBuilder told = new StringBuilder();
    private final int kind;
    private final int spread;

    private ModelTest(int run) {
        numbers = run * 7919L + 17;
        kind = run % 5;
        spread = kind == 0 ? 1440 : kind == 1 ? 60 : kind == 2 ? 200 : kind == 3 ? 500 : 1000;
    }

    public static void main(String[] args) {
        for (int run = 0; run < RUNS; run++) {
            new ModelTest(run).go(run);
        }
        faultsOfTexts();
        Check.finish();
    }

    /** Answers from 0 to less than the bound. */
    private int any(int bound) {
        numbers = numbers * 6364136223846793005L + 1442695040888963407L;
        return (int) ((numbers >>> 33) % bound);
    }

    private boolean isLucky(int of) {
        return any(of) == 0;
    }

    private void go(int run) {
        boolean isSwept = run % 3 == 0;
        boolean isSame = kind == 4 ? prepareLongDay() && sweep() : prepare();
        for (int calls = 0; isSame && calls < (isSwept ? CALLS_BEFORE_SWEEP : CALLS); calls++) {
            isSame = step();
        }
        if (isSame && isSwept) {
            isSame = sweep();
        }
        Check.due("whether run " + run + " is as that of the model (see the last row)" + (isSame ? "" : ":\n" + told),
                isSame, true);
    }

    /** Trams that go up and down all day, and begin late: some of their trips get stuck. */
    private boolean prepareLongDay() {
        int vehicles = 1 + any(3);
        int minutes = vehicles == 1 ? 4 : vehicles == 2 ? 8 : 9;
        int turnTime = vehicles == 3 ? 17 : any(3);
        int pace = 11 * minutes + turnTime;
        boolean isSame = both("set", 2, any(11)) && both("set", 1, 1 + any(15)) && both("set", 0, turnTime);
        for (int section = 0; section < 11; section++) {
            isSame = isSame && both("setSection", section, minutes, isLucky(3) ? any(31) : 0);
        }
        int[] depots = {any(2), any(2), any(2)};
        for (int vehicle = 0; vehicle < vehicles; vehicle++) {
            isSame = isSame && both("addVehicle", depots[vehicle]);
        }
        for (int trip = 0; trip < 29; trip++) {
            int place = trip / vehicles;
            int first = 11 * ((depots[trip % vehicles] + place) % 2);
            isSame = isSame && both("addTrip", first, 11 - first, pace * place + place / 2 + trip % vehicles);
        }
        isSame = isSame && both("relink");
        for (int block = 0; block < 3; block++) {
            isSame = isSame && both("block", any(11), any(50), 1900 + any(101));
        }
        return isSame;
    }

    /** Asks for all of the line and of the run. */
    private boolean sweep() {
        boolean isSame = true;
        for (int what = 0; what <= 6; what++) {
            isSame = isSame && both("count", what) && both("run", what);
            for (int vehicle = 0; vehicle < program.count(3); vehicle++) {
                isSame = isSame && both("vehicle", vehicle, what);
            }
        }
        for (int trip = 0; trip < program.count(0); trip++) {
            int stop = any(12);
            isSame = isSame && both("delay", trip) && both("trip", trip, 3) && both("trip", trip, 6)
                    && both("actual", trip, stop, 0) && both("actual", trip, stop, 1);
        }
        for (int stop = 0; stop < 12; stop++) {
            isSame = isSame && both("actualBunches", 0, stop) && both("actualBunches", 1, stop);
        }
        return isSame;
    }

    private boolean prepare() {
        boolean isSame = true;
        for (int stop = 1; stop <= 10; stop++) {
            if (isLucky(3)) {
                isSame = isSame && both("setTurn", stop, 1);
            }
        }
        int vehicles = 1 + any(8);
        for (int vehicle = 0; vehicle < vehicles; vehicle++) {
            isSame = isSame && both("addVehicle", any(2));
        }
        int trips = any(20);
        for (int trip = 0; trip < trips; trip++) {
            int first = 11 * any(2);
            isSame = isSame && both("addTrip", first, 11 - first, any(spread));
        }
        return isSame && (isLucky(2) || both("set", 2, any(11)));
    }

    private boolean step() {
        if (isLucky(12)) {
            return type();
        }
        int choice = any(100);
        if (choice < 45) {
            return change(choice);
        }
        return isLucky(20) ? rareCall() : query(any(17));
    }

    private int trip() {
        return isLucky(40) ? strange() : any(Math.max(1, program.count(0)));
    }

    private int vehicle() {
        return isLucky(40) ? strange() : any(Math.max(1, program.count(3)));
    }

    private int stop() {
        return isLucky(40) ? strange() : any(12);
    }

    private int strange() {
        return STRANGE[any(STRANGE.length)];
    }

    private int orStrange(int value) {
        return isLucky(60) ? strange() : value;
    }

    /** A stop at which trips can turn, mostly. */
    private int end() {
        return isLucky(2) ? 11 * any(2) : stop();
    }

    private boolean change(int choice) {
        switch (choice) {
            case 0:
                return both("setSection", orStrange(any(11)), orStrange(1 + any(9)), orStrange(isLucky(2) ? 0 : any(31)));
            case 1:
                return both("setTurn", stop(), any(2));
            case 2:
                return both("set", orStrange(any(3)), orStrange(any(12)));
            case 3:
            case 4:
            case 5:
            case 6:
                return both("addTrip", end(), end(), orStrange(any(spread)));
            case 7:
            case 8:
                return both("cancel", trip(), isLucky(3) ? 1 : 0);
            case 9:
            case 10:
                return isLucky(3) ? both("addVehicle", orStrange(any(2))) : both("cancel", trip(), 0);
            case 11:
            case 12:
            case 13:
            case 14:
            case 15:
                return giveRound();
            case 16:
                return both("take", vehicle());
            case 17:
            case 18:
            case 19:
                return both("exchange", vehicle(), vehicle(), orStrange(any(spread)));
            case 20:
            case 21:
                int first = any(kind == 4 ? 2000 : spread);
                return both("block", orStrange(any(11)), orStrange(first), orStrange(first + any(isLucky(3) ? 2000 : 60)));
            case 22:
                return both("unblock", orStrange(any(6)));
            case 23:
                return both("turnShort", trip(), stop());
            case 24:
                return both("startLate", trip(), stop());
            case 25:
            case 26:
                return both("relink");
            case 27:
            case 28:
                return both("undo");
            default:
                return both("give", trip(), vehicle());
        }
    }

    /** Gives a round of trips that can follow one another, mostly. */
    private boolean giveRound() {
        int first = trip();
        int second = trip();
        for (int trip = 0; trip < program.count(0) && !isLucky(12); trip++) {
            boolean isKnown = first >= 0 && first < program.count(0);
            if (isKnown && program.trip(first, 1) == program.trip(trip, 0)
                    && program.trip(first, 3) < program.trip(trip, 2) && program.trip(trip, 6) < 0) {
                second = trip;
            }
        }
        return both("giveRound", first, second, vehicle());
    }

    private boolean query(int choice) {
        switch (choice) {
            case 0:
                return both("trip", trip(), orStrange(any(7)));
            case 1:
                return both("planned", trip(), stop());
            case 2:
                return both("count", orStrange(any(7)));
            case 3:
                return both("passage", orStrange(any(2)), stop(), orStrange(any(6)), any(2));
            case 4:
                return both("bunches", orStrange(any(2)), stop());
            case 5:
                return both("headway", orStrange(any(2)), stop(), any(2));
            case 6:
                return both("meanHeadway", orStrange(any(2)), stop());
            case 7:
                return both("wouldRefuse", trip(), vehicle());
            case 8:
                return both("duty", vehicle(), orStrange(any(4)));
            case 9:
                return both("vehicle", vehicle(), orStrange(any(7)));
            case 10:
                return both("leaving", orStrange(any(2)), orStrange(any(4)));
            case 11:
                return both("actual", trip(), stop(), any(2));
            case 12:
                return both("delay", trip());
            case 13:
                return both("run", orStrange(any(7)));
            case 14:
                return both("actualBunches", orStrange(any(2)), stop());
            case 15:
                return both("leastVehicles", any(2)) && both("leastCost", orStrange(any(isLucky(2) ? 1001 : 50)));
            default:
                return both("nextTrip", trip());
        }
    }

    private boolean rareCall() {
        switch (any(5)) {
            case 0:
                return both("save");
            case 1:
                return both("restore");
            case 2:
                return both("meanDelay");
            case 3:
                return both("faultPosition");
            default:
                return both("refusal");
        }
    }

    private boolean type() {
        StringBuilder text = new StringBuilder();
        int trips = any(4);
        for (int trip = 0; trip < trips; trip++) {
            text.append(11 * any(2)).append('-').append(isLucky(3) ? any(13) : 11 * any(2));
            text.append('@').append(any(1500)).append(';');
        }
        if (text.length() > 0 && isLucky(3)) {
            text.setCharAt(any(text.length()), "0123456789-@;x".charAt(any(14)));
        }
        boolean isSame = true;
        for (int index = 0; index < text.length(); index++) {
            isSame = isSame && both("append", text.charAt(index));
        }
        return isSame && (isLucky(6) || (both("readTrips") && both("faultPosition")));
    }

    /** Makes a call on both, and tells whether they answer alike. */
    private boolean both(String name, int... a) {
        told.append(name).append(java.util.Arrays.toString(a));
        String got = answer(arguments -> ofProgram(name, arguments), a);
        String want = answer(arguments -> ofModel(name, arguments), a);
        told.append(" answered ").append(got);
        if (!got.equals(want)) {
            told.append(", due is ").append(want);
        }
        told.append('\n');
        return got.equals(want);
    }

    private static String answer(Function<int[], Object> call, int[] arguments) {
        try {
            return String.valueOf(call.apply(arguments));
        } catch (RuntimeException e) {
            // What the machine throws at a division has a text of its own.
            return "by zero".equals(e.getMessage()) || "/ by zero".equals(e.getMessage())
                    ? "a division by zero" : e.getClass().getName();
        }
    }

    private Object ofProgram(String name, int[] a) {
        TramLines x = program;
        switch (name) {
            case "setSection": return x.setSection(a[0], a[1], a[2]);
            case "setTurn": return x.setTurn(a[0], a[1] == 1);
            case "set": return x.set(a[0], a[1]);
            case "addTrip": return x.addTrip(a[0], a[1], a[2]);
            case "cancel": return x.cancel(a[0], a[1] == 1);
            case "trip": return x.trip(a[0], a[1]);
            case "planned": return x.planned(a[0], a[1]);
            case "count": return x.count(a[0]);
            case "passage": return x.passage(a[0], a[1], a[2], a[3] == 1);
            case "bunches": return x.bunches(a[0], a[1]);
            case "headway": return x.headway(a[0], a[1], a[2] == 1);
            case "meanHeadway": return x.meanHeadway(a[0], a[1]);
            case "addVehicle": return x.addVehicle(a[0]);
            case "give": return x.give(a[0], a[1]);
            case "giveRound": return x.giveRound(a[0], a[1], a[2]);
            case "refusal": return x.refusal();
            case "wouldRefuse": return x.wouldRefuse(a[0], a[1]);
            case "take": return x.take(a[0]);
            case "exchange": return x.exchange(a[0], a[1], a[2]);
            case "duty": return x.duty(a[0], a[1]);
            case "vehicle": return x.vehicle(a[0], a[1]);
            case "leaving": return x.leaving(a[0], a[1]);
            case "block": return x.block(a[0], a[1], a[2]);
            case "unblock": return x.unblock(a[0]);
            case "actual": return x.actual(a[0], a[1], a[2] == 1);
            case "delay": return x.delay(a[0]);
            case "run": return x.run(a[0]);
            case "actualBunches": return x.actualBunches(a[0], a[1]);
            case "meanDelay": return x.meanDelay();
            case "turnShort": return x.turnShort(a[0], a[1]);
            case "startLate": return x.startLate(a[0], a[1]);
            case "leastVehicles": return x.leastVehicles(a[0] == 1);
            case "leastCost": return x.leastCost(a[0]);
            case "nextTrip": return x.nextTrip(a[0]);
            case "relink": return x.relink();
            case "append": x.append((char) a[0]); return "";
            case "readTrips": return x.readTrips();
            case "faultPosition": return x.faultPosition();
            case "undo": return x.undo();
            case "save": x.save(); return "";
            case "restore": x.restore(); return "";
            default: throw new Error(name);
        }
    }

    private Object ofModel(String name, int[] a) {
        Model x = model;
        switch (name) {
            case "setSection": return x.setSection(a[0], a[1], a[2]);
            case "setTurn": return x.setTurn(a[0], a[1] == 1);
            case "set": return x.set(a[0], a[1]);
            case "addTrip": return x.addTrip(a[0], a[1], a[2]);
            case "cancel": return x.cancel(a[0], a[1] == 1);
            case "trip": return x.trip(a[0], a[1]);
            case "planned": return x.planned(a[0], a[1]);
            case "count": return x.count(a[0]);
            case "passage": return x.passage(a[0], a[1], a[2], a[3] == 1);
            case "bunches": return x.bunches(a[0], a[1]);
            case "headway": return x.headway(a[0], a[1], a[2] == 1);
            case "meanHeadway": return x.meanHeadway(a[0], a[1]);
            case "addVehicle": return x.addVehicle(a[0]);
            case "give": return x.give(a[0], a[1]);
            case "giveRound": return x.giveRound(a[0], a[1], a[2]);
            case "refusal": return x.refusal();
            case "wouldRefuse": return x.wouldRefuse(a[0], a[1]);
            case "take": return x.take(a[0]);
            case "exchange": return x.exchange(a[0], a[1], a[2]);
            case "duty": return x.duty(a[0], a[1]);
            case "vehicle": return x.vehicle(a[0], a[1]);
            case "leaving": return x.leaving(a[0], a[1]);
            case "block": return x.block(a[0], a[1], a[2]);
            case "unblock": return x.unblock(a[0]);
            case "actual": return x.actual(a[0], a[1], a[2] == 1);
            case "delay": return x.delay(a[0]);
            case "run": return x.run(a[0]);
            case "actualBunches": return x.actualBunches(a[0], a[1]);
            case "meanDelay": return x.meanDelay();
            case "turnShort": return x.turnShort(a[0], a[1]);
            case "startLate": return x.startLate(a[0], a[1]);
            case "leastVehicles": return x.leastVehicles(a[0] == 1);
            case "leastCost": return x.leastCost(a[0]);
            case "nextTrip": return x.nextTrip(a[0]);
            case "relink": return x.relink();
            case "append": x.append((char) a[0]); return "";
            case "readTrips": return x.readTrips();
            case "faultPosition": return x.faultPosition();
            case "undo": return x.undo();
            case "save": x.save(); return "";
            case "restore": x.restore(); return "";
            default: throw new Error(name);
        }
    }

    /** Compares the fault positions of texts that are sound but for one sign that is put, left out or changed. */
    private static void faultsOfTexts() {
        String signs = "0123459-@; ";
        String sound = "10-0@1439;0-11@70;";
        for (int place = 0; place <= sound.length(); place++) {
            for (int sign = 0; sign < signs.length(); sign++) {
                String before = sound.substring(0, place);
                dueFault(before + signs.charAt(sign) + sound.substring(place));
                if (place < sound.length()) {
                    dueFault(before + sound.substring(place + 1));
                    dueFault(before + signs.charAt(sign) + sound.substring(place + 1));
                }
            }
        }
    }

    private static void dueFault(String text) {
        TramLines x = new TramLines();
        x.setTurn(10, true);
        for (int index = 0; index < text.length(); index++) {
            x.append(text.charAt(index));
        }
        try {
            x.readTrips();
        } catch (RuntimeException e) {
            // The fault position tells it.
        }
        Check.due("fault of " + text, x.faultPosition(), Model.faultOf(text));
    }
}
