/** Promises 11 type, 12 clear, 13 fault, 14 run. */
public final class PadTest {
    public static void main(String[] args) {
        signs();
        sixtySigns();
        faults();
        everyPrefixOfAnOrder();
        runDoes();
        runStops();
        runRefuses();
        Check.end();
    }

    private static void signs() {
        Raidhall x = new Raidhall();
        Check.refusedAsArgument(() -> x.type(31));
        Check.refusedAsArgument(() -> x.type(127));
        Check.refusedAsArgument(() -> x.type(-1));
        Check.due(1, () -> x.type(32));
        Check.due(2, () -> x.type(126));
        Check.due(2, x::clear);
        Check.due(0, x::clear);
        Check.due(1, () -> x.type('r'));
    }

    private static void sixtySigns() {
        Raidhall x = new Raidhall();
        for (int i = 0; i < 10; i++) {
            Play.type(x, "raid" + i + ";");
        }
        Check.due(-1, x::fault);
        Check.refusedAsState(() -> x.type('r'));
        Check.refusedAsArgument(() -> x.type(7));
        Check.due(60, x::clear);
        for (int i = 0; i < 9; i++) {
            Play.type(x, "raid0;");
        }
        Play.type(x, "line@1");
        Check.due(60, x::fault);
        Check.refusedAsState(() -> x.type(';'));
        Check.due(60, x::fault);
    }

    private static void faults() {
        fault("", -1);
        fault("raid3;", -1);
        fault("raid3", 5);
        fault("raid;", 4);
        fault("raid33;", 5);
        fault("raid3@1;", 5);
        fault("raid@3;", 4);
        fault(" raid3;", 0);
        fault("raid 3;", 4);
        fault("raid3; ", 6);
        fault("raid3;;", 6);
        fault("Raid3;", 0);
        fault("touch3@1;", -1);
        fault("touch3@01;", -1);
        fault("touch3@001;", -1);
        fault("touch3@0001;", 10);
        fault("touch3@999;", -1);
        fault("touch3@;", 7);
        fault("touch@1;", 5);
        fault("touch3;", 6);
        fault("touch12@1;", 6);
        fault("bonus@1;", -1);
        fault("baulk@12;", -1);
        fault("back@123;", -1);
        fault("fall@000;", -1);
        fault("line@9;", -1);
        fault("time@300;", -1);
        fault("bonus1@1;", 5);
        fault("bonus@1", 7);
        fault("bonus@12", 8);
        fault("bonus@123", 9);
        fault("bonus@1234", 9);
        fault("bonus@1x", 7);
        fault("b", 1);
        fault("ba", 2);
        fault("bak", 2);
        fault("bax", 2);
        fault("bo", 2);
        fault("bx", 1);
        fault("t", 1);
        fault("tu", 1);
        fault("tim", 3);
        fault("tome@1;", 2);
        fault("x", 0);
        fault(";", 0);
        fault("raid1;b", 7);
        fault("raid1;q", 6);
        fault("raid1;back@3;raid", 17);
        fault("raid1;back@3;raid2;fall@4;", -1);
        fault("/", 0);
        fault("raid:;", 4);
        fault("raid/;", 4);
        fault("raid9;", -1);
        fault("raid0;", -1);
        fault("line@:;", 5);
        // What the order ahead was does not help one without a word.
        fault("3@1;", 0);
        fault("raid1;3;", 6);
        fault("raid1;ba3;", 8);
        fault("touch1@1;1@1;", 9);
        fault("bonus@1;@2;", 8);
    }

    private static void fault(String text, int want) {
        Raidhall x = new Raidhall();
        Play.type(x, text);
        Check.due(want, x::fault);
        Check.due(text.length(), x::clear);
        Check.due(-1, x::fault);
    }

    private static void everyPrefixOfAnOrder() {
        for (String order : new String[] {"raid3;", "touch3@120;", "bonus@120;", "baulk@120;", "back@120;",
            "fall@120;", "line@120;", "time@120;"}) {
            for (int length = 1; length < order.length(); length++) {
                fault(order.substring(0, length), length);
                fault(order.substring(0, length) + "#", length);
                fault(order + order.substring(0, length), order.length() + length);
            }
        }
    }

    private static void runDoes() {
        Raidhall x = Play.match();
        Play.type(x, "raid3;touch0@010;touch5@11;bonus@12;baulk@013;back@99;");
        Check.due(6, x::run);
        Check.due(3, () -> x.points(0));
        Check.due(99, () -> x.match(0));
        Check.due(54, x::clear);
        Play.type(x, "raid1;fall@1;raid1;line@2;raid2;time@300;");
        Check.due(6, x::run);
        Check.due(402, () -> x.match(0));
        Check.due(4, () -> x.match(2));
        Play.retype(x, "raid3;touch3@7;");
        Check.due(2, x::run);
        Check.due(1, () -> x.match(3));
        Play.retype(x, "touch4@8;");
        Check.due(1, x::run);
        Check.due(0, x::run);
        Play.retype(x, "back@9;");
        Check.due(1, x::run);
        Check.due(5, () -> x.raidPoints(0, 3));
        Check.due(0, () -> x.match(3));
        Check.due(7, x::clear);
        Check.due(0, x::run);
    }

    private static void runStops() {
        Raidhall none = new Raidhall();
        Play.type(none, "raid3;");
        Check.due(0, none::run);
        Raidhall x = Play.match();
        Play.type(x, "raid3;back@0;back@3;");
        Check.due(1, x::run);
        Check.due(1, () -> x.match(3));
        Check.due(0, x::run);
        Play.retype(x, "back@301;");
        Check.due(0, x::run);
        Play.retype(x, "time@299;");
        Check.due(0, x::run);
        Play.retype(x, "touch9@9;");
        Check.due(0, x::run);
        Play.retype(x, "bonus@9;bonus@10;back@11;");
        Check.due(1, x::run);
        Play.retype(x, "raid1;");
        Check.due(0, x::run);
        Play.retype(x, "baulk@9;");
        Check.due(0, x::run);
        Play.retype(x, "line@300;raid8;raid7;");
        Check.due(1, x::run);
        Check.due(21, x::clear);
        Raidhall over = Play.match(300);
        Play.type(over, "raid0;time@300;raid0;");
        Check.due(2, over::run);
        Check.due(1, () -> over.match(5));
    }

    private static void runRefuses() {
        Raidhall x = Play.match();
        Play.type(x, "raid3;back@9;r");
        Check.refusedAsState(x::run);
        Check.due(0, () -> x.match(2));
        Check.due(14, x::clear);
        Play.type(x, "raid3,");
        Check.refusedAsState(x::run);
        Check.due(5, x::fault);
    }
}
