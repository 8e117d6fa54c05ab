/** Promise by promise: ordinary inputs, the edges that the document names, wrong inputs. */
public final class PromiseTests extends Checks {
    public static void main(String[] args) {
        newObject();
        tape();
        houses();
        faultPlaces();
        faultLimits();
        longTexts();
        people();
        tufts();
        ways();
        goes();
        days();
        beats();
        undoes();
        prints();
        readings();
        readingsOrder();
        crossing();
        walks();
        walkFaults();
        seen();
        wayCounts();
        years();
        rarest();
        sentences();
        sentenceFaults();
        images();
        System.out.println(passed + " passed, " + failed + " failed");
        System.exit(failed == 0 ? 0 : 1);
    }

    private static void newObject() {
        promise = "1";
        RugReader x = new RugReader();
        is("NONE", RugReader.NONE, -1);
        int[] due = {0, 0, 0, 0, 0, 0, 9, 0, 0, -1};
        for (int what = 0; what < due.length; what++) {
            is("count(" + what + ")", x.count(what), due[what]);
        }
        is("count(-1)", x.count(-1), -1);
        is("fault()", x.fault(), 0);
        is("undo()", x.undo(), -1);
        is("said(-1)", x.said(-1), -1);
        is("image(0)", x.image(0), true);
        is("restore(0)", x.restore(0), true);
        is("restore(1)", x.restore(1), false);
        is("house() of an empty tape", x.house(), 0);
        is("walk() of an empty tape", x.walk(), -2);
        is("fault()", x.fault(), 1);
        is("sentence() of an empty tape", x.sentence(), -1);
        is("readings() of an empty tape", x.readings(), -1);
    }

    private static void tape() {
        promise = "2, 3";
        RugReader x = new RugReader();
        for (int i = 1; i <= 47; i++) {
            is("feed", x.feed(0, 0, 0, 0, 0), 20 * i);
        }
        is("feed beyond 940", x.feed(0, 0, 0, 0, 0), -1);
        is("count(8)", x.count(8), 940);
        is("end(941)", x.end(941), false);
        is("end(-1)", x.end(-1), false);
        is("end(min)", x.end(Integer.MIN_VALUE), false);
        is("count(8)", x.count(8), 940);
        is("end(921)", x.end(921), true);
        is("feed to 941", x.feed(0, 0, 0, 0, 0), -1);
        is("count(8)", x.count(8), 921);
        is("end(920)", x.end(920), true);
        is("feed to 940", x.feed(0, 0, 0, 0, 0), 940);
        is("end(940)", x.end(940), true);
        is("end(0)", x.end(0), true);
        is("end(1) of an empty tape", x.end(1), false);
        // "fade 5;" by numbers whose first byte is above 127 nowhere, and "\u00e9" by one that is.
        x.feed(0x66616465, 0x20353B0A, 0xE9000000, 0, 0);
        x.end(8);
        is("house by numbers", x.house(), 1);
        is("count(6)", x.count(6), 5);
        x.feed(0x66616465, 0x20353B0A, 0xE9000000, 0, 0);
        x.end(9);
        is("house with a byte of 233", x.house(), -9);
        is("fault", x.fault(), 1);
    }

    private static void houses() {
        promise = "4, 5";
        house("", 0, 0);
        house(" \n ", 0, 0);
        house(HOUSE, 9, 0);
        house("rug 2 12;", 1, 0);
        house("rug 012 002;fade 009;person ab 001 000 009;", 3, 0);
        house("\n rug\n2 2 ;person\na 1 0 1;", 2, 0);
        house("person rugs 1 1 1;person a 1 1 1;", 2, 0);
        house("rug 3 3;wall 0 0;door 0 0;", 3, 0);
        house("rug 3 3;way p 0 0 e 2;wall 0 0;", 3, 0);
        house("rug 2 2;way p 0 0;", 2, 0);
        RugReader x = of(HOUSE);
        tell(x, "rug 4 4;x");
        is("house with a FAULT", x.house(), -9);
        is("it stays", x.count(0), 5);
        is("it stays", x.count(3), 2);
        x.goes(0, 0, 0);
        x.days(3);
        x.goes(1, 1, 1);
        x.undo();
        tell(x, "weight>0");
        x.sentence();
        tell(x, "?");
        is("house with a FAULT", x.house(), -1);
        is("its DAY stays", x.count(7), 3);
        is("its rug stays", x.tuft(0, 0), 3);
        is("its SENTENCE stays", x.said(-1), 2);
        is("its acts stay", x.undo(), 1);
        x.beat(0, 28);
        tell(x, "rug 4 4;person a 1 1 1;way p 0 0;");
        is("house", x.house(), 3);
        is("fault", x.fault(), 0);
        is("a new HOUSE: DAY 0", x.count(7), 0);
        is("a new HOUSE: 9 days", x.count(6), 9);
        is("a new HOUSE: a clean rug", x.tuft(0, 1), 0);
        is("a new HOUSE: no SENTENCE", x.said(-1), -1);
        is("a new HOUSE: nothing can be undone", x.undo(), -1);
        is("a new HOUSE: nobody walked", x.person(0, 5), 0);
        is("a new HOUSE: nothing hidden", x.hidden(-1), 0);
        is("a new HOUSE: nothing missing", x.missing(0), 0);
    }

    private static void faultPlaces() {
        promise = "4, 5: FAULTS";
        String[] words = {"rug", "person", "wall", "door", "way", "fade", "n", "e", "s", "w", "or", "and", "not",
            "trod", "weight", "sole", "pace", "prints", "tufts", "place"};
        for (String word : words) {
            house("person " + word + " 1 1 1;", -8, 1);
            house("rug 2 2;way " + word + " 0 0;", -13, 1);
        }
        house("person abcdefg 1 1 1;", 1, 0);
        house("person abcdefgh 1 1 1;", -8, 1);
        house("person a1 1 1 1;", -8, 1);
        house("person 1a 1 1 1;", -8, 1);
        house("person 1 1 1 1;", -8, 1);
        house("person ; 1 1 1;", -8, 1);
        house("person a 1 1 1", -15, 1);
        house("person a 1 1 1 1;", -16, 1);
        house("person a 1 1 1a;", -14, 1);
        house("person a 1 1 1.", -15, 1);
        house("person a 1\t1 1;", -11, 1);
        house("person a 0001 1 1;", -10, 1);
        house("person a 10 1 1;", -10, 2);
        house("person a 9 9 9;", 1, 0);
        house("person a 9 9 10;", -14, 2);
        house("rug 12 12;rug 12 12;", -11, 3);
        house("rug 2 1;", -7, 2);
        house("rug 2 13;", -7, 2);
        house("rug;", -4, 1);
        house("door 0 0;", -6, 2);
        house("way p 0 0;", -7, 2);
        house("way p x 0;", -7, 1);
        house("wall x 0;", -6, 1);
        house("rug 3 2;wall 2 2;", -16, 2);
        house("rug 3 2;door 3 1;", -14, 2);
        house("rug 3 2;wall 2 1;door 2 1;door 0 0;wall 2  1;", -44, 3);
        house("rug 3 2;way p 0 0;way p 0 0;", -23, 3);
        house("rug 3 2;way p 0 0;person p 1 1 1;", -26, 3);
        house("rug 3 2;way p 0 0 n 1;", -21, 5);
        house("rug 3 2;way p 0 0 w 1;", -21, 5);
        house("rug 3 2;way p 0 0 s 2;", -21, 5);
        house("rug 3 2;way p 0 0 e 3;", -21, 5);
        house("rug 3 2;way p 0 0 e 2 s 1 w 2 n 1;", 2, 0);
        house("rug 3 2;way p 0 0 e 0;", -21, 2);
        house("rug 3 2;wall 1 0;way p 0 0 e 2;", -30, 5);
        house("rug 3 2;wall 2 0;way p 0 0 e 2;", -30, 5);
        house("rug 3 2;wall 2 1;way p 2 1;", -26, 5);
        house("rug 3 2;wall 2 1;way p 2 2;", -26, 2);
        house("rug 3 2;way p 0 0 e e;", -21, 1);
        house("rug 3 2;way p 0 0 1;", -19, 1);
        house("fade 3;fade;", -8, 3);
        house("fade 1;fade 1;", -8, 3);
        house("fade 0;", -6, 2);
        house("fade 10;", -6, 2);
        house("rug 13 4;", -5, 2);
        house("rug 1 4;", -5, 2);
        house("person a 1 10 1;", -12, 2);
        house("rug 4 4;door 1 2;door 1 2;", -25, 3);
        house("trod a;", -1, 1);
        house("n 1;", -1, 1);
        house("fade 3;<", -8, 1);
    }

    private static void faultLimits() {
        promise = "4, 5: limits";
        String[] names = {"a", "b", "c", "d", "f", "g"};
        StringBuilder people = new StringBuilder();
        StringBuilder ways = new StringBuilder("rug 2 2;");
        for (String name : names) {
            people.append("person ").append(name).append(" 1 1 1;");
            ways.append("way ").append(name).append(" 0 0;");
        }
        house(people.toString(), 6, 0);
        house(people + "person a 0 0 0;", -1 - people.length(), 4);
        house(ways.toString(), 7, 0);
        house(ways + "way a 9 9;", -1 - ways.length(), 4);
        StringBuilder doors = new StringBuilder("rug 12 12;");
        for (int i = 0; i < 8; i++) {
            doors.append("door ").append(i).append(" 1;");
        }
        house(doors.toString(), 9, 0);
        house(doors + "door 0 1;", -1 - doors.length(), 4);
        StringBuilder walls = new StringBuilder("rug 12 12;");
        for (int i = 0; i < 30; i++) {
            walls.append("wall ").append(i % 10).append(' ').append(i / 10).append(';');
        }
        house(walls.toString(), 31, 0);
        house(walls + "wall 0 0;", -1 - walls.length(), 4);
        String forty = "rug 12 12;way p 0 0 e 11 s 11 w 11 n 7";
        house(forty + ";", 2, 0);
        house("rug 12 12;way p 0 0 e 11 s 11 w 11 n 8;", -38, 4);
        house(forty + " n 1;", -1 - forty.length() - 3, 4);
        house(forty + " w 1;", -1 - forty.length() - 3, 4);
        house(forty + " w 12;", -1 - forty.length() - 3, 2);
        RugReader x = of(forty + ";");
        is("way(0, 40)", x.way(0, 40), 48);
        is("way(0, 41)", x.way(0, 41), -1);
    }

    private static void longTexts() {
        promise = "4: bytes";
        house("fade 3;" + wide(893), 1, 0);
        house("fade 3;" + wide(894), -901, 1);
        house(wide(894) + "fade 3", -901, 1);
        house(wide(893) + "fade 3;", 1, 0);
        house(wide(894) + "fade 3;", -901, 1);
        house(wide(898) + "abc", -899, 1);
        house(wide(893) + "fade 333", -899, 2);
        house(wide(893) + "fade 3333", -899, 1);
        house(wide(899) + "rugs", -900, 1);
        house(wide(899) + "rug 13", -901, 1);
        house(wide(900) + "x", -901, 1);
        house(wide(895) + "fade 0;", -901, 1);
        house("x" + wide(920), -1, 1);
    }

    private static void people() {
        promise = "6";
        RugReader x = of(HOUSE);
        is("person(0, 0)", x.person(0, 0), 3);
        is("person(1, 1)", x.person(1, 1), 2);
        is("person(0, 2)", x.person(0, 2), 2);
        is("person(1, 5)", x.person(1, 5), 0);
        none("person(2, 0)", () -> x.person(2, 0));
        none("person(-1, 0)", () -> x.person(-1, 0));
        none("person(0, 6)", () -> x.person(0, 6));
        none("person(0, -1)", () -> x.person(0, -1));
        x.goes(0, 1, 1);
        x.goes(0, 0, 0);
        is("person(0, 3)", x.person(0, 3), 9);
        is("person(0, 4)", x.person(0, 4), 7);
        is("person(0, 5)", x.person(0, 5), 2);
        is("person(1, 3)", x.person(1, 3), 0);
        x.beat(0, 0);
        is("person(0, 3) beaten", x.person(0, 3), 7);
        is("person(0, 4) beaten", x.person(0, 4), 6);
        x.days(4);
        is("person(0, 3) faded", x.person(0, 3), 0);
        is("person(0, 4) faded", x.person(0, 4), 0);
        is("person(0, 5) stays", x.person(0, 5), 2);
    }

    private static void tufts() {
        promise = "7";
        RugReader x = of(HOUSE);
        none("tuft(5, 0)", () -> x.tuft(5, 0));
        none("tuft(36, 0)", () -> x.tuft(36, 0));
        none("tuft(-1, 0)", () -> x.tuft(-1, 0));
        none("tuft(144, 0)", () -> x.tuft(144, 0));
        none("tuft(0, 8)", () -> x.tuft(0, 8));
        none("tuft(0, -1)", () -> x.tuft(0, -1));
        is("a wall", x.tuft(14, 6), 1);
        is("no wall", x.tuft(13, 6), 0);
        is("a door", x.tuft(28, 7), 1);
        is("no door", x.tuft(27, 7), 0);
        for (int what = 2; what < 6; what++) {
            is("tuft(0, " + what + ") of a clean rug", x.tuft(0, what), -1);
        }
        x.goes(1, 1, 0);
        x.days(1);
        x.goes(0, 0, 0);
        is("DEPTH", x.tuft(0, 0), 15 + 12);
        is("treads", x.tuft(0, 1), 2);
        is("person", x.tuft(0, 2), 0);
        is("SOLE", x.tuft(0, 3), 1);
        is("DIR", x.tuft(0, 4), 1);
        is("age", x.tuft(0, 5), 0);
        is("SOLE of another one", x.tuft(24, 3), 1);
        is("person of it", x.tuft(24, 2), 1);
        is("DIR n", x.tuft(24, 4), 0);
        is("age 1", x.tuft(24, 5), 1);
        x.days(3);
        is("what is younger lies", x.tuft(0, 0), 3);
        is("one alone", x.tuft(0, 1), 1);
        is("what is as old as 'fade' is gone", x.tuft(24, 0), 0);
        is("nobody there", x.tuft(24, 2), -1);
        RugReader y = of("rug 4 4;person a 9 7 1;way p 1 1 s 2 w 1 n 1 e 1 n 1;way q 3 3;way r 0 0 e 1 w 1;");
        y.goes(0, 0, 0);
        is("a WAY over a TUFT twice: treads", y.tuft(13, 1), 2);
        is("DEPTH of nine days", y.tuft(13, 0), 162);
        is("DIR at the end: as it came", y.tuft(13, 4), 0);
        is("DIR s, then as it goes on: n", y.tuft(25, 4), 0);
        is("DIR at the turn: w", y.tuft(37, 4), 3);
        is("DIR n", y.tuft(36, 4), 0);
        is("DIR e", y.tuft(24, 4), 1);
        y.goes(0, 1, 0);
        is("DIR of one TUFT alone", y.tuft(39, 4), 0);
        y.goes(0, 2, 0);
        is("DIR as it came: w", y.tuft(0, 4), 3);
        is("DIR as it goes back: w", y.tuft(1, 4), 3);
    }

    private static void ways() {
        promise = "8";
        RugReader x = of(HOUSE);
        int[] due = {24, 12, 0, 1, -1};
        for (int i = 0; i < due.length; i++) {
            is("way(1, " + i + ")", x.way(1, i), due[i]);
        }
        is("way(2, 0)", x.way(2, 0), -1);
        is("way(-1, 0)", x.way(-1, 0), -1);
        is("way(0, -1)", x.way(0, -1), -1);
        is("way(0, max)", x.way(0, Integer.MAX_VALUE), -1);
        RugReader y = of("rug 9 9;way p 0 0 e 8;");
        tell(y, "rug 9 9;way p 0 0 e 1;");
        y.house();
        is("a shorter WAY of a new HOUSE", y.way(0, 2), -1);
    }

    private static void goes() {
        promise = "9";
        RugReader x = of(HOUSE);
        is("goes(0, 0, 0)", x.goes(0, 0, 0), 5);
        is("goes(0, 1, 1)", x.goes(0, 1, 1), 4);
        is("a WEIGHT of one's own in another one's SOLE", x.tuft(12, 0), 12);
        is("in another one's SOLE", x.tuft(12, 3), 2);
        int[][] wrong = {{2, 0, 0}, {-1, 0, 0}, {0, 2, 0}, {0, -1, 0}, {0, 0, 2}, {0, 0, -1}};
        for (int[] w : wrong) {
            is("goes of none such", x.goes(w[0], w[1], w[2]), -1);
        }
        is("walks so far", x.person(0, 5), 2);
        is("NONE is no act", x.undo(), 1);
    }

    private static void days() {
        promise = "10";
        RugReader x = of(HOUSE);
        is("days(0)", x.days(0), -1);
        is("days(-1)", x.days(-1), -1);
        is("days(21)", x.days(21), -1);
        is("days(max)", x.days(Integer.MAX_VALUE), -1);
        x.goes(0, 0, 0);
        for (int depth = 9; depth >= 0; depth -= 3) {
            is("days(1)", x.days(1), 4 - depth / 3);
            is("DEPTH", x.tuft(0, 0), depth);
        }
        for (int day = 24; day <= 984; day += 20) {
            is("days(20)", x.days(20), day);
        }
        is("days(16) above 999", x.days(16), -1);
        is("days(15) to 999", x.days(15), 999);
        is("days(1) above 999", x.days(1), -1);
        is("years(1) above 999", x.years(1, 1, 1), -1);
        RugReader y = of("rug 2 2;fade 1;person a 2 1 1;way p 0 0;");
        y.goes(0, 0, 0);
        is("fade 1", y.tuft(0, 0), 2);
        y.days(1);
        is("gone with the DAY", y.tuft(0, 1), 0);
        y.goes(0, 0, 0);
        y.days(9);
        is("gone with nine DAYS", y.tuft(0, 1), 0);
        RugReader z = of("rug 2 2;person a 2 1 1;way p 0 0;");
        z.goes(0, 0, 0);
        z.days(8);
        is("the ninth DAY", z.tuft(0, 0), 2);
        is("its age", z.tuft(0, 5), 8);
        z.days(1);
        is("gone", z.tuft(0, 5), -1);
    }

    private static void beats() {
        promise = "11, 13, 14";
        RugReader x = of(HOUSE);
        is("beat of a clean rug", x.beat(0, 28), 0);
        is("hidden(-1)", x.hidden(-1), 0);
        is("beat(5, 0)", x.beat(5, 0), -1);
        is("beat(0, 36)", x.beat(0, 36), -1);
        is("beat(-1, 0)", x.beat(-1, 0), -1);
        x.goes(0, 0, 0);
        x.goes(1, 1, 1);
        x.days(1);
        is("missing ahead", x.missing(0), 0);
        is("beat by unlike corners", x.beat(13, 0), 3);
        is("DEPTH", x.tuft(0, 0), 0);
        is("hidden(-1)", x.hidden(-1), 3);
        is("hidden(0)", x.hidden(0), 0);
        is("hidden(1)", x.hidden(1), 1);
        is("hidden(2)", x.hidden(2), 12);
        is("hidden(3)", x.hidden(3), -1);
        is("hidden(-2)", x.hidden(-2), -1);
        is("missing", x.missing(1), 9 + 15);
        is("missing", x.missing(12), 15);
        is("missing of what lies", x.missing(2), 0);
        is("missing off the rug", x.missing(5), -1);
        is("missing(-1)", x.missing(-1), -1);
        x.goes(0, 0, 0);
        is("what is trod since", x.tuft(1, 0), 12);
        is("missing stays", x.missing(1), 24);
        is("beat by other corners", x.beat(12, 1), 2);
        is("missing of both", x.missing(1), 24 + 12);
        x.days(2);
        is("missing fades", x.missing(1), 3 + 5 + 6);
        x.days(1);
        is("missing is gone with what it was", x.missing(1), 3);
        is("hidden likewise", x.hidden(-1), 2);
        x.days(1);
        is("hidden at last", x.hidden(-1), 0);
    }

    private static void undoes() {
        promise = "12";
        RugReader x = of(HOUSE);
        x.goes(0, 0, 0);
        x.beat(0, 4);
        x.days(2);
        x.years(3, 2, 77);
        is("the DAY", x.count(7), 5);
        is("undo years", x.undo(), 3);
        is("the DAY then", x.count(7), 2);
        is("walks then", x.person(0, 5) + x.person(1, 5), 1);
        is("undo days", x.undo(), 2);
        is("hidden yet", x.hidden(-1), 5);
        is("undo beat", x.undo(), 1);
        is("hidden no more", x.hidden(-1), 0);
        is("it lies", x.tuft(0, 0), 12);
        is("undo goes", x.undo(), 0);
        is("it does not", x.tuft(0, 1), 0);
        is("nobody walked", x.person(0, 5), 0);
        is("undo", x.undo(), -1);
        for (int i = 0; i < 9; i++) {
            x.goes(0, 0, 0);
        }
        x.sentence();
        x.image(0);
        for (int i = 5; i >= 0; i--) {
            is("undo one of six", x.undo(), i);
        }
        is("undo a seventh", x.undo(), -1);
        is("three stay", x.tuft(0, 1), 3);
        x.goes(0, 0, 0);
        x.days(1);
        is("undo", x.undo(), 1);
        x.beat(0, 0);
        is("undo a beat", x.undo(), 1);
        is("undo the walk", x.undo(), 0);
        is("three yet", x.tuft(0, 1), 3);
    }

    private static void prints() {
        promise = "15, 16, 17, 18";
        RugReader x = of(HOUSE);
        is("deepest() of a clean rug", x.deepest(), -1);
        x.goes(1, 0, 1);
        is("soles(2)", x.soles(2), 5);
        x.goes(0, 1, 0);
        is("soles(2) below", x.soles(2), 3);
        is("soles(1)", x.soles(1), 4);
        is("soles(3)", x.soles(3), 0);
        is("soles(-1)", x.soles(-1), 0);
        is("deepest(): of like ones the first", x.deepest(), 0);
        x.beat(0, 0);
        is("deepest()", x.deepest(), 1);
        x.beat(0, 1);
        is("deepest(): a plain one", x.deepest(), 2);
        is("who(12)", x.who(12), 1);
        is("who(20)", x.who(20), 2);
        is("who(21)", x.who(21), -1);
        is("who(15) of both", x.who(15), 2);
        is("who(25)", x.who(25), -1);
        is("who(-3)", x.who(-3), -1);
        is("age(0, 3)", x.age(0, 3), 3);
        is("age(0, 12)", x.age(0, 12), 0);
        is("age(0, 13)", x.age(0, 13), -1);
        is("age(0, 15)", x.age(0, 15), -1);
        is("age(0, 0)", x.age(0, 0), -1);
        is("age(1, 5)", x.age(1, 5), 3);
        is("age(2, 5)", x.age(2, 5), -1);
        is("age(-1, 5)", x.age(-1, 5), -1);
        is("age(0, min)", x.age(0, Integer.MIN_VALUE), -1);
        RugReader w = of("rug 2 2;fade 1;person a 1 1 1;way p 1 1;");
        w.goes(0, 0, 0);
        is("deepest() of a DEPTH of 1", w.deepest(), 13);
        is("who(1)", w.who(1), 1);
        is("age(0, 1)", w.age(0, 1), 0);
        is("age(0, 2)", w.age(0, 2), -1);
        RugReader y = of("person a 2 1 1;person b 3 1 1;person c 7 1 1;");
        is("who of more", y.who(6), 3);
        is("who of more", y.who(14), 5);
        is("age of nine days", y.age(2, 63), 0);
        is("age of nine days", y.age(2, 7), 8);
    }

    private static void readings() {
        promise = "19, 20, 21";
        RugReader x = of(HOUSE);
        is("read ahead of any", x.read(0, 0), -3);
        is("fewest ahead of any", x.fewest(), -1);
        is("no tape", x.readings(), -1);
        byte[][] wrong = {{0, 0, 0}, {0, 0, 0, -1, 0}, {5, 0, 0, -1}, {0, 3, 0, -1}, {0, 0, 0, 10}, {0, 0, 0, -2},
            new byte[36], {-1, 0, 0, -1}};
        for (byte[] w : wrong) {
            tell(x, w);
            is("readings not as told", x.readings(), -1);
            is("the tape behind readings()", x.count(8), 0);
        }
        tell(x, new byte[] {0, 0, 12, 1});
        is("readings of 12 by 1", x.readings(), 2);
        is("fewest", x.fewest(), 1);
        tell(x, new byte[] {0, 0, 20, -1, 4, 0, 0, -1});
        is("readings of two TUFTS", x.readings(), 1);
        is("read(0, 0)", x.read(0, 0), -1);
        is("read(1, 1)", x.read(1, 1), 1);
        tell(x, new byte[] {0, 0, 33, -1});
        is("readings", x.readings(), 0);
        is("the latest that were 1 or more", x.read(1, 1), 1);
        tell(x, new byte[] {2, 1, 0, -1});
        is("a TUFT of no WAY: all fit", x.readings(), 9);
        is("read(0, 0)", x.read(0, 0), -1);
        is("read(0, 1)", x.read(0, 1), -2);
        is("fewest: nobody", x.fewest(), 0);
        is("read(-1, 0)", x.read(-1, 0), -3);
        is("read(2, 0)", x.read(2, 0), -3);
        is("read(0, 2)", x.read(0, 2), -3);
        is("read(0, -1)", x.read(0, -1), -3);
        tell(x, new byte[] {2, 1, 0, 0});
        is("a SOLE where nothing lies", x.readings(), 0);
        tell(x, new byte[] {0, 2, 12, 1, 4, 0, 12, -1, 0, 0, 24, -1, 1, 1, 0, -1, 0, 1, 12, -1, 1, 0, 24, -1, 2, 0, 12,
            -1, 3, 0, 12, 1});
        is("eight TUFTS", x.readings(), 1);
        is("one and the same", x.fewest(), 1);
        tell(x, new byte[] {0, 0, 24, -1, 0, 0, 12, -1});
        is("a TUFT told in two ways", x.readings(), 0);
        x.goes(0, 0, 0);
        tell(x, new byte[] {0, 0, 0, -1});
        is("it is of a clean rug", x.readings(), 1);
        tell(x, "rug 2 2;");
        x.house();
        is("what was told stays", x.read(1, 0), -1);
        is("what was told stays", x.fewest(), 0);
        tell(x, new byte[] {0, 0, 0, -1});
        is("readings without WAYS", x.readings(), 1);
        is("read without WAYS", x.read(0, 0), -3);
    }

    private static void readingsOrder() {
        promise = "19, 20: order";
        RugReader x = of("rug 3 3;fade 2;person a 1 1 1;person b 2 2 1;person c 3 3 1;way p 0 0 e 2;way q 1 0 s 2;"
                + "way r 1 0;");
        tell(x, new byte[] {1, 0, 6, -1});
        // Weights of p, q, r together 3: 003 030 300, 012 021 102 120 201 210, 111.
        is("readings", x.readings(), 10);
        is("the first: nobody, nobody, c", x.read(2, 0), 2);
        is("the first: nobody, nobody, c", x.read(0, 0), -1);
        is("fewest", x.fewest(), 1);
        tell(x, new byte[] {1, 0, 6, 2});
        // ON TOP is the latest by number: b as the last one that walked: 012, 102, 120.
        is("by the SOLE ON TOP", x.readings(), 3);
        is("the first: nobody, a, b", x.read(1, 0), 0);
        is("the first: nobody, a, b", x.read(2, 0), 1);
        is("fewest", x.fewest(), 2);
        is("unlike", x.read(0, 1), -2);
        tell(x, new byte[] {1, 0, 16, -1, 0, 0, 6, -1, 1, 1, 4, -1});
        is("all told", x.readings(), 1);
        is("sure", x.read(0, 1), 2);
        is("sure", x.read(1, 1), 1);
        is("sure", x.read(2, 1), 2);
        RugReader y = of("rug 3 3;person a 1 1 1;way p 0 0 e 1 w 1;way q 2 2;");
        tell(y, new byte[] {0, 0, 18, 1});
        is("twice over a TUFT", y.readings(), 2);
        is("sure", y.read(0, 1), 0);
        is("free", y.read(1, 1), -2);
        is("the first: nobody", y.read(1, 0), -1);
        RugReader z = of("rug 3 3;way p 0 0;");
        tell(z, new byte[] {0, 0, 0, -1});
        is("no people", z.readings(), 1);
        is("nobody by all", z.read(0, 1), -1);
    }

    private static void crossing() {
        promise = "22, 23";
        RugReader x = of(HOUSE);
        is("sign over a clean rug", x.sign(0, 0, 4), 15);
        is("steps", x.steps(0, 0, 4), 4);
        is("sign round the wall", x.sign(1, 13, 15), 25);
        is("steps round the wall", x.steps(1, 13, 15), 4);
        is("sign at one TUFT", x.sign(1, 0, 0), 5);
        is("steps at one TUFT", x.steps(1, 0, 0), 0);
        x.goes(1, 0, 0);
        is("sign over what is one's SOLE", x.sign(0, 0, 4), 0);
        is("it is not the other one's", x.sign(1, 0, 4), 25);
        is("least sign ahead of fewest steps", x.sign(0, 12, 16), 6);
        is("steps of that", x.steps(0, 12, 16), 6);
        is("to a wall", x.sign(0, 0, 14), -1);
        is("from a wall", x.steps(0, 14, 0), -1);
        is("on a wall", x.steps(0, 14, 14), -1);
        int[][] wrong = {{2, 0, 0}, {-1, 0, 0}, {0, 5, 0}, {0, 0, 36}, {0, -1, 0}, {0, 0, -1}};
        for (int[] w : wrong) {
            is("sign of none such", x.sign(w[0], w[1], w[2]), -1);
            is("steps of none such", x.steps(w[0], w[1], w[2]), -1);
        }
        RugReader y = of("rug 3 2;wall 1 0;wall 1 1;person a 9 0 1;");
        is("no way", y.sign(0, 0, 2), -1);
        is("no way", y.steps(0, 0, 2), -1);
        is("on one side", y.sign(0, 0, 12), 18);
    }

    private static void walks() {
        promise = "24, 25";
        RugReader x = of("rug 6 4;person a 1 1 2;wall 3 0;way p 0 0;");
        is("walked ahead of any", x.walked(0), -1);
        walk(x, "a 0 0;", -1, 0);
        walked(x, 0, 0, 0, 0);
        walk(x, "a 0 0;e 2 1;s 3 2;e 3 2;", -1, 0);
        walked(x, 0, 8, 5, 41);
        is("walked(4)", x.walked(4), -1);
        is("walked(-1)", x.walked(-1), -1);
        walk(x, "a 3 0;e 9 1;", 0, 0);
        walked(x, 1, 0, 0, -1);
        walk(x, "a 0 0;s 1 9;n 2 9;", 2, 0);
        walked(x, 1, 1, 9, 12);
        walk(x, "a 0 0;e 3 9;", 1, 0);
        walked(x, 1, 0, 0, 0);
        walk(x, "a 0 0;e 11 1;", 1, 0);
        walked(x, 1, 0, 0, 0);
        walk(x, "a 0 1;e 2 1;s 2 1;w 2 1;n 2 1;e 5 2;e 1 1;", 5, 0);
        walked(x, 2, 8, 4, 12);
        walk(x, "a 0 1;e 4 2;", -1, 0);
        RugReader y = of("rug 12 12;person a 1 1 3;");
        walk(y, "a 0 1;e 9 3;", -1, 0);
        walk(y, "a 0 1;e 10 3;", 1, 0);
        walk(y, "a 0 1;e 10 4;s 3 1;s 4 1;", 3, 0);
        walked(y, 2, 13, 5, 58);
        walk(x, "a 0 1;e 5 2;", 1, 0);
        walked(x, 2, 0, 0, 12);
        walk(x, "a 0 1;e 2 1;w 1 1;", 2, 0);
        walked(x, 3, 2, 1, 14);
        walk(x, "a 0 1;e 2 1;w 1 2;", -1, 0);
        walked(x, 0, 3, 3, 13);
        walk(x, "a 5 1;w 2 9;e 1 1;", 2, 0);
        walk(x, "a 5 1;s 2 9;n 1 1;", 2, 0);
        walk(x, "a 5 3;n 2 9;s 1 1;", 2, 0);
        walk(x, "a 5 0;s 1 1;s 1 1;w 1 1;s 1 1;", -1, 0);
        walk(x, "a 5 1;s 1 1;n 4 1;", 2, 0);
        walked(x, 1, 1, 1, 29);
        walk(x, "a 5 1;s 1 1;n 3 1;", 2, 0);
        walked(x, 1, 1, 1, 29);
        walk(x, "a 0 3;n 1 1;s 1 1;", 2, 0);
        walked(x, 3, 1, 1, 24);
        walk(x, "a 0 1;e 1 1", -13, 1);
        walked(x, 3, 1, 1, 24);
        tell(x, "rug 2 2;");
        x.house();
        walked(x, 3, 1, 1, 24);
        is("the rug is not trod by walk()", x.deepest(), -1);
    }

    private static void walkFaults() {
        promise = "24: FAULTS";
        RugReader x = of("rug 6 4;person a 1 1 2;way p 0 0;");
        walk(x, "b 0 0;", -2, 3);
        walk(x, "p 0 0;", -2, 3);
        walk(x, "rug 0 0;", -2, 1);
        walk(x, "1 0 0;", -2, 1);
        walk(x, " a 6 0;", -5, 2);
        walk(x, "a 0 4;", -6, 2);
        walk(x, "a 0 0", -7, 1);
        walk(x, "a 0 0 n 1 1;", -8, 1);
        walk(x, "a 0 0;x 1 1;", -8, 1);
        walk(x, "a 0 0;;", -8, 1);
        walk(x, "a 0 0;n 0 1;", -10, 2);
        walk(x, "a 0 0;n 12 1;", -10, 2);
        walk(x, "a 0 0;n 1 0;", -12, 2);
        walk(x, "a 0 0;n 1 100;", -12, 2);
        walk(x, "a 0 0;n 1;", -11, 1);
        String thirty = "a 0 0;" + "s 1 1;w 1 1;".repeat(15);
        walk(x, thirty, 2, 0);
        walk(x, thirty + "n 0 0;", -2 - thirty.length(), 4);
        walk(x, thirty + "x", -2 - thirty.length(), 1);
        walk(x, "a 0 0;" + wide(294), -1, 0);
        walk(x, "a 0 0;" + wide(295), -302, 1);
        walk(x, "a 0 0;n" + wide(292) + "1234", -301, 1);
        walk(x, "a 0 0;n" + wide(292) + "123", -301, 2);
        walk(x, "a 0 0;n" + wide(293) + "0", -302, 1);
        RugReader y = of("person a 1 1 1;");
        walk(y, "a 0 0;", -4, 2);
    }

    private static void seen() {
        promise = "26, 27";
        RugReader x = of("rug 3 3;wall 1 1;door 0 1;door 2 1;door 0 0;");
        is("lay ahead of any", x.lay(0), -1);
        is("seen(0, 1)", x.seen(0, 1), 2);
        is("lay(0)", x.lay(0), 0);
        is("lay(1)", x.lay(1), 24);
        is("lay(2)", x.lay(2), -1);
        is("lay(-1)", x.lay(-1), -1);
        is("beside each other", x.seen(0, 2), -1);
        is("one alone", x.seen(1, 1), -1);
        is("no such one", x.seen(0, 3), -1);
        is("no such one", x.seen(-1, 0), -1);
        is("the latest stays", x.lay(1), 24);
        RugReader y = of("rug 7 7;door 3 3;door 5 5;");
        is("four round a door", y.seen(0, 1), 4);
        int[] row = {27, 38, 40, 51};
        for (int i = 0; i < row.length; i++) {
            is("lay(" + i + ")", y.lay(i), row[i]);
        }
        RugReader z = of("rug 5 2;wall 2 0;door 0 0;door 4 1;");
        is("one at a narrow place", z.seen(0, 1), 1);
        is("lay(0): the first of two such", z.lay(0), 13);
        RugReader w = of("rug 3 2;wall 1 0;wall 1 1;door 0 0;door 2 0;");
        w.seen(0, 1);
        is("no way on: none to lay", w.seen(0, 1), 0);
        is("lay(0)", w.lay(0), -1);
        RugReader v = of("rug 12 12;door 0 0;door 11 11;");
        is("two at a corner", v.seen(1, 0), 2);
        is("lay(0)", v.lay(0), 1);
        is("lay(1)", v.lay(1), 12);
        RugReader u = of("rug 3 2;wall 0 0;door 0 0;door 2 0;");
        is("a door in a wall", u.seen(0, 1), 0);
        is("a door in a wall", u.seen(1, 0), 0);
    }

    private static void wayCounts() {
        promise = "28, 29, 30";
        RugReader x = of(HOUSE);
        is("ways(1)", x.ways(1), 3);
        is("ways(24)", x.ways(24), 2);
        is("ways(14)", x.ways(14), 0);
        is("ways(36)", x.ways(36), -1);
        is("ways(-1)", x.ways(-1), -1);
        is("spot()", x.spot(), 0);
        is("both(0, 1)", x.both(0, 1), 2);
        is("both(1, 1)", x.both(1, 1), 4);
        is("both(0, 2)", x.both(0, 2), -1);
        is("both(-1, 0)", x.both(-1, 0), -1);
        RugReader y = of("rug 4 4;way p 0 1 e 1 w 1 e 1;way q 3 1 w 3;way r 3 1;");
        is("TUFTS that both have, once each", y.both(0, 1), 2);
        is("TUFTS of one, once each", y.both(0, 0), 2);
        is("none", y.both(0, 2), 0);
        is("spot(): WAYS, not treads", y.spot(), 12);
        is("ways(15)", y.ways(15), 6);
        RugReader z = of("rug 4 4;person a 1 1 1;");
        is("spot() without WAYS", z.spot(), -1);
        is("ways(0) without WAYS", z.ways(0), 0);
    }

    private static void years() {
        promise = "31";
        RugReader x = of(HOUSE);
        int[][] wrong = {{0, 1}, {61, 1}, {1, 0}, {1, 10}, {-1, 1}, {1, -1}};
        for (int[] w : wrong) {
            is("years not as told", x.years(w[0], w[1], 1), -1);
        }
        is("years without people", of("rug 2 2;way p 0 0;").years(1, 1, 1), -1);
        is("years without WAYS", of("rug 2 2;person a 1 1 1;").years(1, 1, 1), -1);
        is("years(60, 9, -5)", x.years(60, 9, -5), 60);
        is("walks drawn", x.person(0, 5) + x.person(1, 5), 540);
        is("years on", x.years(1, 1, 2), 61);
        drawn(0);
        drawn(1);
        drawn(-1);
        drawn(123456789);
        RugReader y = of(HOUSE);
        for (int i = 0; i < 16; i++) {
            is("years(60, 1, " + i + ")", y.years(60, 1, i), 60 * (i + 1));
        }
        is("years to 1000", y.years(40, 1, 1), -1);
        is("years to 999", y.years(39, 1, 1), 999);
        is("undo years", y.undo(), 5);
        is("the DAY then", y.count(7), 960);
    }

    /** Draws twelve DAYS of three walks by hand, beside years(). */
    private static void drawn(int seed) {
        RugReader x = of(HOUSE);
        RugReader y = of(HOUSE);
        x.years(12, 3, seed);
        int[] at = {seed};
        for (int day = 0; day < 12; day++) {
            for (int k = 0; k < 3; k++) {
                int p = draw(at, 2);
                int way = draw(at, 2);
                y.goes(p, way, p);
            }
            if (draw(at, 6) == 0) {
                int across = draw(at, 5);
                int tuft = draw(at, 3) * 12 + across;
                y.beat(tuft, tuft);
            }
            y.days(1);
        }
        for (int row = 0; row < 3; row++) {
            for (int k = 0; k < 5; k++) {
                int tuft = 12 * row + k;
                is("DEPTH drawn by " + seed, x.tuft(tuft, 0), y.tuft(tuft, 0));
                is("person drawn by " + seed, x.tuft(tuft, 2), y.tuft(tuft, 2));
                is("SOLE drawn by " + seed, x.tuft(tuft, 3), y.tuft(tuft, 3));
                is("missing drawn by " + seed, x.missing(tuft), y.missing(tuft));
            }
        }
    }

    private static int draw(int[] x, int n) {
        x[0] = x[0] * 1103515245 + 12345;
        return (x[0] >>> 8) % n;
    }

    private static void rarest() {
        promise = "32";
        is("rarest() of nobody", of("rug 2 2;").rarest(), -1);
        RugReader x = of(HOUSE);
        is("rarest(): the first", x.rarest(), 0);
        x.goes(0, 0, 1);
        is("rarest()", x.rarest(), 1);
        x.goes(1, 0, 1);
        is("rarest(): of like ones the first", x.rarest(), 0);
        x.goes(0, 0, 0);
        x.days(9);
        is("rarest(): so far", x.rarest(), 1);
    }

    private static void sentences() {
        promise = "33, 34";
        RugReader x = of("rug 5 3;person a 3 1 2;person b 5 2 1;person c 5 3 9;"
                + "way p 0 0 e 4;way q 0 2 n 2 e 1;way r 4 2;");
        is("said ahead of any", x.said(-1), -1);
        x.goes(0, 0, 1);
        x.goes(1, 1, 0);
        x.goes(1, 1, 0);
        said(x, "trod p", 3);
        said(x, "trod r", 0);
        said(x, "trod q", 3);
        said(x, "weight=5", 6);
        said(x, "weight<5", 1);
        said(x, "sole>1", 6);
        said(x, "pace=9", 4);
        said(x, "prints>5", 2);
        said(x, "prints=0", 4);
        said(x, "tufts=4", 2);
        said(x, "tufts<5 and tufts > 0", 2);
        said(x, "place=2", 4);
        said(x, "place>999", 0);
        said(x, "not place=2", 3);
        said(x, "place=0 or place=1 and place=2", 1);
        said(x, "(place=0 or place=1) and place=2", 0);
        said(x, "not place=0 and place=1", 2);
        said(x, "not (place=0 or place=1)", 4);
        said(x, "not not place=0", 1);
        said(x, "place=0 and place=1 or place=2", 4);
        said(x, "place=0 or not place=1 and pace<9 or place=2", 5);
        is("said(-2)", x.said(-2), -1);
        is("said(0)", x.said(0), 0);
        is("said(1)", x.said(1), 2);
        sentence(x, "weight=5", 1, 0);
        sentence(x, "not weight=5", 2, 0);
        sentence(x, "not(weight=5)", 3, 0);
        sentence(x, "(weight=5 or trod p)and sole=1", 4, 0);
        sentence(x, "((sole=1))", 3, 0);
        said(x, "trod q", 3);
        x.beat(0, 4);
        said(x, "trod q", 2);
        said(x, "trod p", 0);
        x.undo();
        said(x, "trod p", 3);
        x.days(9);
        is("nobody trod it any more", x.said(-1), 0);
        sentence(x, "sole", -5, 1);
        is("the SENTENCE stays", x.said(-1), 0);
        sentence(of("rug 2 2;"), "weight=5", 1, 0);
    }

    private static void sentenceFaults() {
        promise = "33: FAULTS";
        RugReader x = of("rug 5 3;person a 3 1 2;way p 0 0 e 4;");
        sentence(x, "", -1, 1);
        sentence(x, "  ", -3, 1);
        sentence(x, "trod a", -6, 3);
        sentence(x, "trod zz", -6, 3);
        sentence(x, "trod way", -6, 1);
        sentence(x, "trod 1", -6, 1);
        sentence(x, "a", -1, 1);
        sentence(x, "rug = 1", -1, 1);
        sentence(x, "weight 5", -8, 1);
        sentence(x, "weight ( 5", -8, 1);
        sentence(x, "weight = =", -10, 1);
        sentence(x, "weight =", -9, 1);
        sentence(x, "weight", -7, 1);
        sentence(x, "trod", -5, 1);
        sentence(x, "place=1 or (trod", -17, 1);
        sentence(x, "weight = 1000", -10, 1);
        sentence(x, "weight = 999", 1, 0);
        sentence(x, "weight = 5;", -11, 1);
        sentence(x, "weight = 5 weight = 5", -12, 1);
        sentence(x, "weight = 5 and", -15, 1);
        sentence(x, "weight = 5 and or", -16, 1);
        sentence(x, "weight = 5)", -11, 1);
        sentence(x, "(weight = 5", -12, 1);
        sentence(x, "()", -2, 1);
        sentence(x, "not", -4, 1);
        sentence(x, "not not not not not not not pace<3", 8, 0);
        sentence(x, "not not not not not not not not pace<3", -33, 4);
        sentence(x, "not not not not not not not not pac<3", -33, 1);
        sentence(x, "(((((((pace<3)))))))", 8, 0);
        sentence(x, "((((((((pace<3))))))))", -9, 4);
        sentence(x, "not(not(not(not pace<3)))", 8, 0);
        sentence(x, "not(not(not(not(pace<3))))", -17, 4);
        String twenty = "not(not(not pace<3 or sole<3 or sole<4 or sole<5 or sole<6 or sole<7 or sole<8 or sole<9)and"
                + " pace<1 and pace<2 and pace<3 and pace<4 and pace<5 and pace<6)";
        sentence(x, twenty, 19, 0);
        sentence(x, twenty + "or pace<7", 20, 0);
        sentence(x, twenty + "or pace<7 or pace<8", -1 - twenty.length() - 13, 4);
        sentence(x, twenty + "or pace<7 or  8", -1 - twenty.length() - 14, 1);
        sentence(x, "pace<1" + wide(194), 1, 0);
        sentence(x, "pace<1" + wide(195), -201, 1);
        sentence(x, "pace<" + wide(194) + "12", -201, 1);
        sentence(x, "pace<" + wide(194) + "1234", -200, 1);
        sentence(x, "pace<" + wide(195) + "12", -201, 1);
    }

    private static void images() {
        promise = "35, 36";
        RugReader x = of(HOUSE);
        is("image(2)", x.image(2), false);
        is("image(-1)", x.image(-1), false);
        is("restore(0) of nothing", x.restore(0), false);
        x.goes(0, 0, 0);
        x.days(1);
        x.beat(0, 0);
        tell(x, "weight>3");
        x.sentence();
        is("image(0)", x.image(0), true);
        is("an image is no act", x.undo(), 2);
        x.undo();
        x.undo();
        tell(x, "rug 2 2;");
        x.house();
        is("image(1)", x.image(1), true);
        x.feed(1, 2, 3, 4, 5);
        is("restore(2)", x.restore(2), false);
        is("restore(-1)", x.restore(-1), false);
        is("restore(0)", x.restore(0), true);
        is("the tape stays", x.count(8), 20);
        is("the HOUSE", x.count(0), 5);
        is("its WAYS", x.way(1, 3), 1);
        is("its walls", x.tuft(14, 6), 1);
        is("its doors", x.tuft(28, 7), 1);
        is("its 'fade'", x.count(6), 4);
        is("its people", x.person(1, 2), 1);
        is("its rug", x.tuft(1, 0), 9);
        is("walks so far", x.person(0, 5), 1);
        is("what is missing", x.missing(0), 9);
        is("the DAY", x.count(7), 1);
        is("the SENTENCE", x.said(-1), 1);
        is("the SENTENCE", x.said(0), 1);
        is("nothing can be undone", x.undo(), -1);
        x.goes(1, 1, 1);
        x.days(5);
        is("restore(0) again", x.restore(0), true);
        is("as kept", x.tuft(1, 1), 1);
        is("as kept", x.count(7), 1);
        is("restore(1)", x.restore(1), true);
        is("the other HOUSE", x.count(0), 2);
        is("without a SENTENCE", x.said(-1), -1);
        x.end(0);
        tell(x, "trod p");
        is("a FAULT", x.sentence(), -6);
        is("restore(0)", x.restore(0), true);
        is("the FAULT told last stays", x.fault(), 3);
        tell(x, "trod p");
        is("names are kept", x.sentence(), 1);
        tell(x, "a 0 0;e 1 1;");
        is("names are kept", x.walk(), -1);
        is("restore(1)", x.restore(1), true);
        is("the walk told last stays", x.walked(3), 1);
    }
}
