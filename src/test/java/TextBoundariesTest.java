/** The boundary cases of "Texts" and of the promises 37 to 39, a test for each sentence. */
public final class TextBoundariesTest {

    public static void main(String[] args) {
        oneOrMoreTrips();
        signsBetween();
        stopsInTexts();
        departuresInTexts();
        needlessZeros();
        firstWrongCharacter();
        endsTooEarly();
        digitThatIsTooMuch();
        fullBuffer();
        tripsAdded();
        emptiedAlsoByExceptions();
        noneAddedThen();
        faultOfText();
        whateverAddTripWouldThrow();
        anyOfTheTrips();
        faultBeforeState();
        latestText();
        notRead();
        Check.finish();
    }

    private static void type(TramLines x, String text) {
        for (int index = 0; index < text.length(); index++) {
            x.append(text.charAt(index));
        }
    }

    private static void dueFault(String text, int position) {
        TramLines x = new TramLines();
        x.setTurn(10, true);
        x.setTurn(1, true);
        type(x, text);
        Check.badArgument("readTrips of " + text, x::readTrips);
        Check.due("fault of " + text, x.faultPosition(), position);
        Check.due("trips added by " + text, x.count(0), 0);
    }

    private static void dueTrips(String text, int... stopsAndMinutes) {
        TramLines x = new TramLines();
        for (int stop = 1; stop <= 10; stop++) {
            x.setTurn(stop, true);
        }
        type(x, text);
        int trips = stopsAndMinutes.length / 3;
        Check.due("readTrips of " + text, x.readTrips(), trips);
        Check.due("fault of " + text, x.faultPosition(), -1);
        Check.due("trips by " + text, x.count(0), trips);
        for (int index = 0; index < stopsAndMinutes.length; index++) {
            Check.due("trip " + index / 3 + ", " + index % 3 + " by " + text, x.trip(index / 3, index % 3),
                    stopsAndMinutes[index]);
        }
    }

    private static void oneOrMoreTrips() {
        Check.sentence("A text of trips consists of one or more trips, each followed by \";\".");
        dueFault("", 0);
        dueFault(";", 0);
        dueTrips("0-1@5;", 0, 1, 5);
        dueFault("0-1@5", 5);
        dueTrips("0-1@5;1-0@9;", 0, 1, 5, 1, 0, 9);
        dueFault("0-1@5;1-0@9", 11);
        dueFault("0-1@5;;", 6);
        dueFault("0-1@5 1-0@9;", 5);
        dueTrips("0-1@0;0-1@1;0-1@2;0-1@3;0-1@4;0-1@5;0-1@6;0-1@7;0-1@8;0-1@9;", 0, 1, 0, 0, 1, 1, 0, 1, 2, 0, 1, 3,
                0, 1, 4, 0, 1, 5, 0, 1, 6, 0, 1, 7, 0, 1, 8, 0, 1, 9);
    }

    private static void signsBetween() {
        Check.sentence("A trip is written as its first stop, \"-\", its last stop, \"@\" and its departure");
        dueTrips("10-1@5;", 10, 1, 5);
        dueFault("10@1@5;", 2);
        dueFault("10;1@5;", 2);
        dueFault("1+10@5;", 1);
        dueFault("1--10@5;", 2);
        dueFault("1-10-5;", 4);
        dueFault("1-10;", 4);
        dueFault("1-10@@5;", 5);
        dueFault("1-10@-5;", 5);
        dueFault("-1-10@5;", 0);
        dueFault("@5;", 0);
        dueFault("1-10@5-", 6);
        dueFault("1-10@5@", 6);
        dueFault(" 1-10@5;", 0);
        dueFault("1 -10@5;", 1);
        char[] strange = {0, 9, 47, 58, 127, 255, 1632, 65296, 65535};
        for (char sign : strange) {
            dueFault("" + sign, 0);
            dueFault("1-" + sign, 2);
            dueFault("1-10@1" + sign, 6);
        }
    }

    private static void stopsInTexts() {
        Check.sentence("a stop has 1 or 2 digits and is from 0 to 11");
        for (int stop = 1; stop <= 11; stop++) {
            dueTrips("0-" + stop + "@5;", 0, stop, 5);
            dueTrips(stop + "-0@5;", stop, 0, 5);
        }
        dueFault("12-0@5;", 1);
        dueFault("0-12@5;", 3);
        dueFault("20-0@5;", 1);
        dueFault("99-0@5;", 1);
        dueFault("100-0@5;", 2);
        dueFault("110-0@5;", 2);
        dueFault("0-111@5;", 4);
        dueFault("-0@5;", 0);
        dueFault("0-@5;", 2);
    }

    private static void departuresInTexts() {
        Check.sentence("a departure has 1 to 4 digits and is from 0 to 1439");
        int[] minutes = {0, 1, 9, 10, 99, 100, 143, 144, 999, 1000, 1399, 1400, 1438, 1439};
        for (int minute : minutes) {
            dueTrips("0-11@" + minute + ";", 0, 11, minute);
        }
        dueFault("0-11@;", 5);
        dueFault("0-11@1440;", 8);
        dueFault("0-11@1500;", 8);
        dueFault("0-11@2000;", 8);
        dueFault("0-11@9999;", 8);
        dueFault("0-11@10000;", 9);
        dueFault("0-11@14390;", 9);
    }

    private static void needlessZeros() {
        Check.sentence("both without needless zeros before them");
        dueTrips("0-11@0;", 0, 11, 0);
        dueFault("00-11@0;", 1);
        dueFault("01-11@0;", 1);
        dueFault("010-11@0;", 1);
        dueFault("11-00@0;", 4);
        dueFault("11-01@0;", 4);
        dueFault("0-11@00;", 6);
        dueFault("0-11@05;", 6);
        dueFault("0-11@0005;", 6);
    }

    private static void firstWrongCharacter() {
        Check.sentence("The fault position of a text is the index of its first character that cannot continue such a text");
        String sound = "10-1@1439;1-10@7;";
        for (int place = 0; place < sound.length(); place++) {
            String changed = sound.substring(0, place) + "x" + sound.substring(place + 1);
            dueFault(changed, place);
            dueFault(changed + "y", place);
        }
        dueFault("1;-1@1439;", 1);
        dueFault("10-;@1439;", 3);
        dueFault("10-1@;439;", 5);
        dueFault("10-1@1;39;", 8);
        dueFault("10-1@14;9;", 9);
        dueFault("10-1@143;;", 9);
    }

    private static void endsTooEarly() {
        Check.sentence("or the length of the text if it ends too early");
        String sound = "10-1@1439;1-10@7;";
        for (int length = 0; length < sound.length(); length++) {
            if (length != 10) {
                dueFault(sound.substring(0, length), length);
            }
        }
        String full = "0-1@0;0-1@1;0-1@2;0-1@3;0-1@4;0-1@5;0-1@6;0-1@7;0-1@8;0-1@10";
        dueFault(full.substring(0, 59), 59);
        dueFault(full.substring(0, 53) + "7;0-1@8", 60);
    }

    private static void digitThatIsTooMuch() {
        Check.sentence("The digit with which a number becomes greater than 11 or 1439 is the fault.");
        dueFault("12", 1);
        dueFault("19", 1);
        dueFault("30", 1);
        dueFault("112", 2);
        dueFault("0-12", 3);
        dueFault("0-99", 3);
        dueFault("0-11@1440", 8);
        dueFault("0-11@1449", 8);
        dueFault("0-11@1999", 8);
        dueFault("0-11@2222", 8);
        dueFault("0-11@14391", 9);
        dueFault("0-11@144", 8);
    }

    private static void fullBuffer() {
        Check.sentence("append throws IllegalStateException if the buffer contains 60 characters");
        TramLines x = new TramLines();
        x.setTurn(1, true);
        for (int trip = 0; trip < 9; trip++) {
            type(x, "0-1@" + trip + ";");
        }
        type(x, "0-1@9");
        x.append(';');
        char[] signs = {';', '0', 0, 65535};
        for (char sign : signs) {
            Check.badState("a 61st character " + (int) sign, () -> x.append(sign));
        }
        Check.due("the first sixty stay", x.readTrips(), 10);
        for (int index = 0; index < 59; index++) {
            x.append('1');
        }
        Check.badArgument("59 characters", x::readTrips);
        for (int index = 0; index < 60; index++) {
            x.append((char) index);
        }
        Check.badState("a 61st character again", () -> x.append('1'));
        Check.badArgument("sixty characters", x::readTrips);
        type(x, "0-1@7;");
        Check.due("there is room again", x.readTrips(), 1);
    }

    private static void tripsAdded() {
        Check.sentence("readTrips returns the number of trips added.");
        TramLines x = new TramLines();
        x.addTrip(11, 0, 3);
        type(x, "0-11@1439;");
        Check.due("one", x.readTrips(), 1);
        Check.due("behind those that were there", x.trip(1, 2), 1439);
        type(x, "11-0@8;0-11@7;");
        Check.due("two", x.readTrips(), 2);
        Check.due("in their order, the first one", x.trip(2, 2), 8);
        Check.due("in their order, the second one", x.trip(3, 2), 7);
        Check.due("active", x.count(1), 4);
        Check.due("in no duty", x.trip(3, 6), -1);
    }

    private static void emptiedAlsoByExceptions() {
        Check.sentence("The buffer is emptied, also if an exception is thrown");
        TramLines x = new TramLines();
        type(x, "0-11@5;");
        Check.due("read", x.readTrips(), 1);
        Check.badArgument("empty behind it", x::readTrips);
        Check.due("at 0", x.faultPosition(), 0);
        type(x, "0-11@");
        Check.badArgument("a fault", x::readTrips);
        type(x, "0-11@6;");
        Check.due("empty behind a fault", x.readTrips(), 1);
        type(x, "0-0@5;");
        Check.badState("a refused one", x::readTrips);
        type(x, "0-11@7;");
        Check.due("empty behind a refused one", x.readTrips(), 1);
        Check.due("all that were read", x.count(0), 3);
    }

    private static void noneAddedThen() {
        Check.sentence("then no trip is added");
        String[] faulty = {"0-11@5;x", "0-11@5;11-0@6;1", "0-11@5;11-0@1440;"};
        String[] refused = {"0-11@5;0-0@5;", "0-11@5;11-0@6;1-0@5;", "0-11@5;11-0@6;0-1@5;"};
        TramLines x = new TramLines();
        for (int number = 0; number < 3; number++) {
            type(x, faulty[number]);
            Check.badArgument(faulty[number], x::readTrips);
            type(x, refused[number]);
            Check.badState(refused[number], x::readTrips);
            Check.due("none added", x.count(0), 0);
        }
        Check.badState("no change is kept", x::undo);
        for (int trip = 0; trip < 28; trip++) {
            x.addTrip(0, 11, trip);
        }
        type(x, "0-11@5;0-11@6;0-11@7;");
        Check.badState("one too many", x::readTrips);
        Check.due("none of three added", x.count(0), 28);
        type(x, "0-11@5;0-11@6;");
        Check.due("just thirty", x.readTrips(), 2);
    }

    private static void faultOfText() {
        Check.sentence("readTrips throws IllegalArgumentException if the text has a fault");
        TramLines x = new TramLines();
        Check.badArgument("an empty buffer", x::readTrips);
        type(x, "0-11@5;0");
        Check.badArgument("a text that ends too early", x::readTrips);
        type(x, "0-11@5:");
        Check.badArgument("a wrong character", x::readTrips);
        type(x, "0-11@5;");
        Check.due("no fault", x.readTrips(), 1);
    }

    private static void dueRefused(TramLines x, String text) {
        int trips = x.count(0);
        type(x, "0-11@1440;");
        Check.badArgument("a fault before " + text, x::readTrips);
        Check.due("its position before " + text, x.faultPosition(), 8);
        type(x, text);
        Check.badState(text, x::readTrips);
        Check.due("no fault position of " + text, x.faultPosition(), -1);
        Check.due("none added by " + text, x.count(0), trips);
    }

    private static void whateverAddTripWouldThrow() {
        Check.sentence("readTrips throws IllegalStateException for whatever addTrip would throw, and there is no fault "
                + "position then.");
        TramLines x = new TramLines();
        x.setTurn(5, true);
        dueRefused(x, "0-0@5;");
        dueRefused(x, "5-5@5;");
        dueRefused(x, "11-11@1439;");
        dueRefused(x, "4-11@5;");
        dueRefused(x, "0-6@5;");
        dueRefused(x, "0-5@5;0-6@5;");
        for (int trip = 0; trip < 29; trip++) {
            x.addTrip(0, 5, trip);
        }
        dueRefused(x, "0-11@5;0-11@6;");
        type(x, "5-11@5;");
        Check.due("the thirtieth one", x.readTrips(), 1);
        dueRefused(x, "0-11@5;");
    }

    private static void anyOfTheTrips() {
        Check.sentence("readTrips throws IllegalStateException if addTrip would throw an exception for one of them");
        TramLines x = new TramLines();
        dueRefused(x, "1-0@5;0-11@5;0-11@6;");
        dueRefused(x, "0-11@5;1-0@5;0-11@6;");
        dueRefused(x, "0-11@5;0-11@6;1-0@5;");
        for (int trip = 0; trip < 21; trip++) {
            x.addTrip(0, 11, trip);
        }
        x.setTurn(1, true);
        dueRefused(x, "0-1@0;0-1@1;0-1@2;0-1@3;0-1@4;0-1@5;0-1@6;0-1@7;0-1@8;0-1@9;");
        x.undo();
        x.undo();
        x.setTurn(1, true);
        type(x, "0-1@0;0-1@1;0-1@2;0-1@3;0-1@4;0-1@5;0-1@6;0-1@7;0-1@8;0-1@9;");
        Check.due("just thirty", x.readTrips(), 10);
    }

    private static void faultBeforeState() {
        Check.sentence("If several conditions of a method are fulfilled, the one that is listed first determines the "
                + "exception. (readTrips)");
        TramLines x = new TramLines();
        type(x, "0-0@5;x");
        Check.badArgument("the same stops and a fault", x::readTrips);
        Check.due("the fault, not the stops", x.faultPosition(), 6);
        for (int trip = 0; trip < 30; trip++) {
            x.addTrip(0, 11, trip);
        }
        type(x, "0-11@5");
        Check.badArgument("too many trips and a fault", x::readTrips);
        Check.due("at the end", x.faultPosition(), 6);
        Check.badArgument("too many trips and an empty text", x::readTrips);
        Check.due("at the begin", x.faultPosition(), 0);
    }

    private static void latestText() {
        Check.sentence("Returns the fault position of the text of the latest call of readTrips.");
        TramLines x = new TramLines();
        type(x, "0-11@5;x");
        Check.badArgument("a fault", x::readTrips);
        Check.due("its position", x.faultPosition(), 7);
        Check.due("asked again", x.faultPosition(), 7);
        type(x, "x");
        Check.due("not of the text that is not yet read", x.faultPosition(), 7);
        Check.badArgument("another fault", x::readTrips);
        Check.due("its position then", x.faultPosition(), 0);
        type(x, "0-11@5;");
        x.readTrips();
        Check.due("no fault", x.faultPosition(), -1);
    }

    private static void notRead() {
        Check.sentence("Returns the fault position, or -1 if the text had no fault or readTrips has not been called.");
        TramLines x = new TramLines();
        Check.due("at first", x.faultPosition(), -1);
        type(x, "x");
        Check.due("not read", x.faultPosition(), -1);
        Check.badArgument("a fault at the begin", x::readTrips);
        Check.due("0, not -1", x.faultPosition(), 0);
        type(x, "0-0@5;");
        Check.badState("a refused one", x::readTrips);
        Check.due("without a fault", x.faultPosition(), -1);
    }
}
