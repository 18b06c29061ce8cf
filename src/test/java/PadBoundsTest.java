/** The boundaries of promises 11 to 14, and of the terms of texts: a test for each sentence. */
public final class PadBoundsTest {
    private static final int NONE = Raidhall.NONE;
    private static final String[] STEPS = {"touch3", "bonus", "baulk", "back", "fall", "line", "time"};

    public static void main(String[] args) {
        signs();
        sixtySigns();
        clear();
        whatOrdersAre();
        digits();
        numbers();
        whereTheyCannotEnd();
        whereNoOrdersGoOn();
        run();
        Check.end();
    }

    private static Run pad(String sentence, String text) {
        Run r = new Run(sentence);
        r.type(text);
        return r;
    }

    private static void fault(String sentence, String text, int want) {
        Run r = pad(sentence, text);
        r.due(want, "fault");
        if (want == NONE) {
            r.due(0, "run");
        } else {
            r.state("run");
        }
        r.due(text.length(), "clear");
        r.due(NONE, "fault");
    }

    // ---- promise 11

    private static void signs() {
        Run r = new Run("11: `sign`: 32 to 126");
        for (int bad : new int[] {31, 127, 0, -1, Integer.MIN_VALUE, Integer.MAX_VALUE}) {
            r.argument("type", bad);
        }
        r.due(1, "type", 32);
        r.due(2, "type", 126);
        r.due(2, "clear");
    }

    private static void sixtySigns() {
        Run r = new Run("There is a pad of at most 60 signs; 11: if it has 60");
        for (int count = 1; count <= 60; count++) {
            r.due(count, "type", "raid1;".charAt((count - 1) % 6));
        }
        r.due(NONE, "fault");
        r.state("type", 'r');
        r.state("type", 32);
        r.argument("type", 31);
        r.argument("type", 127);
        r.due(60, "clear");
        r.due(1, "type", 'r');
        Run stopped = new Run("its length, if they could not end there: of 60 signs");
        for (int i = 0; i < 10; i++) {
            stopped.type(i < 9 ? "raid1;" : "raid1@");
        }
        stopped.due(59, "fault");
        Run short59 = new Run("its length, if they could not end there: of 59 and 60 signs");
        for (int i = 0; i < 9; i++) {
            short59.type("raid1;");
        }
        short59.type("raid1");
        short59.due(59, "fault");
        short59.due(60, "type", ';');
        short59.due(NONE, "fault");
        Run open = new Run("its length, if they could not end there: of 60 signs");
        for (int i = 0; i < 9; i++) {
            open.type("raid1;");
        }
        open.type("line@1");
        open.due(60, "fault");
        open.state("type", ';');
        open.state("run");
    }

    // ---- promise 12

    private static void clear() {
        Run r = new Run("12: Empties the pad; returns how many signs it had");
        r.due(0, "clear");
        r.does("type", 'x');
        r.due(0, "fault");
        r.due(1, "clear");
        r.due(NONE, "fault");
        r.due(0, "clear");
        r.due(1, "type", 'r');
    }

    // ---- promise 13

    private static void whatOrdersAre() {
        fault("an empty pad has none", "", NONE);
        fault("\"raid\" a digit", "raid3;", NONE);
        for (String step : STEPS) {
            String sentence = "\"touch\" a digit, \"@\", a number; the others \"@\", a number";
            fault(sentence, step + "@120;", NONE);
            fault(sentence, step + ";", step.length());
            fault(sentence, step + "@;", step.length() + 1);
            fault(sentence, "raid3;" + step + "@1;", NONE);
            fault(sentence, step + "@1;" + step + "@1;", NONE);
        }
        fault("\"raid\" a digit, and no number", "raid3@1;", 5);
        fault("\"touch\" a digit", "touch@1;", 5);
        fault("\"bonus\" and no digit", "bonus3@1;", 5);
        fault("\"raid\" a digit", "raid;", 4);
        fault("then \";\"", "raid3raid3;", 5);
        fault("then \";\"", "back@3back@3;", 6);
        fault("Its orders are each a word, then what belongs to it, then \";\"", "raid3;;", 6);
        fault("Its orders are each a word", ";", 0);
        fault("without blanks", " raid3;", 0);
        fault("without blanks", "raid 3;", 4);
        fault("without blanks", "raid3 ;", 5);
        fault("without blanks", "raid3; ", 6);
        fault("without blanks", "raid3; raid3;", 6);
        fault("without blanks", "back@ 1;", 5);
        fault("Its orders are each a word, in these letters", "Raid3;", 0);
        fault("Its orders are each a word, in these letters", "raiD3;", 3);
    }

    private static void digits() {
        for (int digit = 0; digit <= 9; digit++) {
            fault("\"raid\" a digit: 0 to 9", "raid" + digit + ";", NONE);
            fault("\"touch\" a digit: 0 to 9", "touch" + digit + "@1;", NONE);
            fault("a number: of digits 0 to 9", "back@" + digit + ";", NONE);
        }
        for (String bad : new String[] {"/", ":", "-", "a"}) {
            fault("\"raid\" a digit", "raid" + bad + ";", 4);
            fault("\"touch\" a digit", "touch" + bad + "@1;", 5);
            fault("a number: of digits", "back@" + bad + ";", 5);
            fault("a number: of digits", "back@1" + bad + ";", 6);
        }
        fault("\"raid\" a digit: one", "raid12;", 5);
        fault("\"touch\" a digit: one", "touch12@1;", 6);
    }

    private static void numbers() {
        for (String step : STEPS) {
            String sentence = "A number has 1 to 3 digits, 0 ahead allowed";
            int at = step.length() + 1;
            fault(sentence, step + "@;", at);
            fault(sentence, step + "@7;", NONE);
            fault(sentence, step + "@77;", NONE);
            fault(sentence, step + "@777;", NONE);
            fault(sentence, step + "@7777;", at + 3);
            fault(sentence, step + "@0;", NONE);
            fault(sentence, step + "@07;", NONE);
            fault(sentence, step + "@007;", NONE);
            fault(sentence, step + "@0007;", at + 3);
            fault(sentence, step + "@000;", NONE);
            fault(sentence, step + "@999;", NONE);
        }
    }

    private static void whereTheyCannotEnd() {
        String sentence = "or its length, if they could not end there";
        for (String step : STEPS) {
            String order = step + "@120;";
            for (int length = 1; length < order.length(); length++) {
                fault(sentence, order.substring(0, length), length);
                fault(sentence, "raid3;" + order.substring(0, length), 6 + length);
            }
        }
        for (int length = 1; length < 6; length++) {
            fault(sentence, "raid3;".substring(0, length), length);
        }
    }

    private static void whereNoOrdersGoOn() {
        String sentence = "the index of the first sign with which no orders go on";
        for (String step : STEPS) {
            String order = step + "@12;";
            for (int length = 0; length < order.length(); length++) {
                fault(sentence, order.substring(0, length) + "~", length);
                fault(sentence, order.substring(0, length) + "~" + order.substring(length), length);
                fault(sentence, "raid3;" + order.substring(0, length) + "~", 6 + length);
            }
        }
        fault(sentence, "b~", 1);
        fault(sentence, "ba~", 2);
        fault(sentence, "bal", 2);
        fault(sentence, "bon~", 3);
        fault(sentence, "bc", 1);
        fault(sentence, "ti~", 2);
        fault(sentence, "te", 1);
        fault(sentence, "raidd", 4);
        fault(sentence, "fal3", 3);
        fault(sentence, "raid3;back@3;x", 13);
        fault(sentence, "xraid3;", 0);
        fault(sentence, "raid3;3;", 6);
        fault(sentence, "back@3;@3;", 7);
        fault(sentence, "raid3;raix;rbix;", 9);
    }

    // ---- promise 14

    private static void run() {
        runNeedsNoFault();
        runOfAnEmptyPad();
        runOfTenOrders();
        runStopsAtARaid();
        runStopsAtAStep();
        runAndNumbers();
        runGoesOnWithARaid();
        thePadStays();
        runAndTheSixtiethEvent();
        runAndTheTime();
    }

    private static Run matchAndPad(String sentence, String text) {
        Run r = Run.match(sentence);
        r.type(text);
        return r;
    }

    private static void runNeedsNoFault() {
        Run r = matchAndPad("14: if the pad has a fault", "raid3;back@9;r");
        r.state("run");
        r.due(0, "match", 2);
        r.due(14, "clear");
        r.type("raid3;back@9");
        r.state("run");
        r.due(13, "type", ';');
        r.due(2, "run");
        r.due(1, "match", 2);
    }

    private static void runOfAnEmptyPad() {
        Run r = Run.match("an empty pad has none; 14: Returns how many are done");
        r.due(NONE, "fault");
        r.due(0, "run");
        r.due(0, "match", 2);
        Run none = new Run("14: up to the first one for which these would throw: without a match");
        none.due(0, "run");
        none.type("raid3;back@9;");
        none.due(0, "run");
        none.does("begin", 0, 1, 300);
        none.due(2, "run");
    }

    private static void runOfTenOrders() {
        Run r = matchAndPad("14: Returns how many are done", "raid1;fall@1;raid1;fall@1;raid2;fall@1;raid2;fall@1;");
        r.due(8, "run");
        r.due(4, "match", 2);
        r.due(4, "match", 0);
        r.due(2, "points", 0);
        r.due(2, "points", 1);
        Run all = matchAndPad("14: Does the orders of the pad, as raid() and step() do", "raid0;touch1@1;touch2@2;bonus@3;baulk@4;back@5;");
        all.due(6, "run");
        all.due(3, "points", 0);
        all.due(5, "match", 0);
        all.look("out", 1, 1, 2, NONE);
        all.does("clear");
        all.type("raid0;line@7;raid3;time@300;");
        all.due(4, "run");
        all.due(312, "match", 0);
    }

    private static void runStopsAtARaid() {
        Run bench = matchAndPad("14: up to the first one for which these would throw: a raider who is not ON",
                "raid3;line@9;raid7;raid1;");
        bench.due(2, "run");
        bench.due(0, "match", 3);
        bench.due(1, "match", 2);
        Run twice = matchAndPad("14: up to the first one for which these would throw: a raid goes on",
                "raid3;raid4;back@9;");
        twice.due(1, "run");
        twice.due(1, "match", 3);
        twice.due(0, "run");
        twice.due(1, "match", 2);
    }

    private static void runStopsAtAStep() {
        String sentence = "14: up to the first one for which these would throw an exception: ";
        stopsAt(sentence + "no raid goes on", 0, "back@9;raid3;");
        stopsAt(sentence + "the tenth is not later", 2, "raid3;bonus@9;baulk@9;back@10;");
        stopsAt(sentence + "the tenth is later", 4, "raid3;bonus@9;baulk@10;back@11;");
        stopsAt(sentence + "one on the BENCH", 1, "raid3;touch7@9;back@10;");
        stopsAt(sentence + "one touched twice", 2, "raid3;touch6@9;touch6@10;back@11;");
        stopsAt(sentence + "BONUS twice", 2, "raid3;bonus@9;bonus@10;back@11;");
        stopsAt(sentence + "BAULK twice", 2, "raid3;baulk@9;baulk@10;back@11;");
        stopsAt(sentence + "TIME at another tenth", 1, "raid3;time@299;back@300;");
        stopsAt(sentence + "TIME at its tenth", 2, "raid3;time@300;");
    }

    private static void stopsAt(String sentence, int done, String text) {
        Run r = matchAndPad(sentence, text);
        r.due(done, "run");
        r.due(done == 0 ? 0 : 1, "match", 2);
    }

    private static void runAndNumbers() {
        String sentence = "14: up to the first one for which these would throw an exception; 4: `tenth`: 1 to 300: ";
        stopsAt(sentence + "0", 1, "raid3;back@0;back@5;");
        stopsAt(sentence + "000", 1, "raid3;back@000;back@5;");
        stopsAt(sentence + "1", 2, "raid3;back@1;back@5;");
        stopsAt(sentence + "001", 2, "raid3;back@001;back@5;");
        stopsAt(sentence + "300", 2, "raid3;back@300;");
        stopsAt(sentence + "301", 1, "raid3;back@301;back@5;");
        stopsAt(sentence + "999", 1, "raid3;bonus@999;back@5;");
        Run r = matchAndPad("A number has 1 to 3 digits, 0 ahead allowed: it is read by ten", "raid3;back@019;");
        r.due(2, "run");
        r.due(19, "match", 0);
    }

    private static void runGoesOnWithARaid() {
        Run r = Run.match("14: Does the orders of the pad, as raid() and step() do: of a raid that goes on");
        r.does("raid", 3);
        r.does("step", Raidhall.TOUCH, 4, 7);
        r.type("touch4@8;");
        r.due(0, "run");
        r.does("clear");
        r.type("touch5@8;");
        r.due(1, "run");
        r.due(0, "run");
        r.does("clear");
        r.type("back@9;");
        r.due(1, "run");
        r.due(2, "points", 0);
        r.due(0, "run");
    }

    private static void thePadStays() {
        Run r = matchAndPad("14: the pad stays", "raid3;line@9;");
        r.due(2, "run");
        r.due(NONE, "fault");
        r.due(2, "run");
        r.due(2, "match", 2);
        r.due(14, "type", 'x');
        r.state("run");
        r.due(14, "clear");
    }

    private static void runAndTheSixtiethEvent() {
        Run r = Run.match("14: up to the first one for which these would throw: there are 60 events");
        r.fill(3, 59);
        r.type("raid3;fall@9;raid3;fall@9;");
        r.due(2, "run");
        r.due(60, "match", 2);
        r.due(0, "run");
    }

    private static void runAndTheTime() {
        Run r = Run.match("14: up to the first one for which these would throw: the time has come", 300);
        r.type("raid3;line@299;raid3;line@1;raid4;line@1;");
        r.due(4, "run");
        r.due(300, "match", 0);
        r.due(1, "match", 5);
    }
}
