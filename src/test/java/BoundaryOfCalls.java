/** What each promise says under its own number. */
final class BoundaryOfCalls extends Boundary {
    private static final int[] FAR = {MIN, MIN + 1, -144, -3, -2, 144, 145, 1000, MAX - 1, MAX};
    private static final String DOORS = "rug 3 3;wall 1 1;door 0 1;door 2 1;door 0 0;";

    static void all() {
        calls();
        newObject();
        feed();
        end();
        house();
        fault();
        person();
        tuft();
        way();
        goes();
        days();
        beat();
        undo();
        hidden();
        solesAndDeepest();
        whoAndAge();
        readings();
        read();
        fewest();
        signAndSteps();
        walk();
        walked();
        seenAndLay();
        ways();
        years();
        rarest();
        sentence();
        said();
        images();
        count();
    }

    private static void calls() {
        test("What it is", "10, 12, 31", "An object is used for at most 512 calls after it has been made;", () -> {
            RugReader x = new RugReader();
            tell(x, HOUSE);
            int made = (HOUSE.length() + 19) / 20 + 1;
            is("house()", x.house(), 9);
            made++;
            for (; made < 500; made++) {
                is("goes(0, 0, 0)", x.goes(0, 0, 0), 5);
            }
            is("years(60, 9, 1)", x.years(60, 9, 1), 60);
            is("undo()", x.undo(), 5);
            is("days(1)", x.days(1), 1);
            for (made += 3; made < 511; made++) {
                is("tuft(0, 1)", x.tuft(0, 1), 500 - 2 - (HOUSE.length() + 19) / 20);
            }
            is("the 512th call", x.tuft(0, 0), 9 * (500 - 2 - (HOUSE.length() + 19) / 20));
        });
    }

    private static void newObject() {
        promise(1, "An empty HOUSE; an empty tape.", () -> {
            RugReader x = new RugReader();
            int[] counts = {0, 0, 0, 0, 0, 0, 9, 0, 0};
            for (int what = 0; what < counts.length; what++) {
                is("count(" + what + ")", x.count(what), counts[what]);
            }
            none("person(0, 0)", () -> x.person(0, 0));
            none("tuft(0, 0)", () -> x.tuft(0, 0));
            is("way(0, 0)", x.way(0, 0), -1);
            is("goes(0, 0, 0)", x.goes(0, 0, 0), -1);
            is("beat(0, 0)", x.beat(0, 0), -1);
            is("years(1, 1, 1)", x.years(1, 1, 1), -1);
            is("undo()", x.undo(), -1);
            is("hidden(-1)", x.hidden(-1), 0);
            is("missing(0)", x.missing(0), -1);
            is("soles(0)", x.soles(0), 0);
            is("soles(-1)", x.soles(-1), 0);
            is("deepest()", x.deepest(), -1);
            is("who(9)", x.who(9), -1);
            is("age(0, 9)", x.age(0, 9), -1);
            is("readings()", x.readings(), -1);
            is("sign(0, 0, 0)", x.sign(0, 0, 0), -1);
            is("steps(0, 0, 0)", x.steps(0, 0, 0), -1);
            is("seen(0, 1)", x.seen(0, 1), -1);
            is("spot()", x.spot(), -1);
            is("ways(0)", x.ways(0), -1);
            is("both(0, 0)", x.both(0, 0), -1);
            is("rarest()", x.rarest(), -1);
            is("said(-1)", x.said(-1), -1);
            is("fault()", x.fault(), 0);
            is("end(0)", x.end(0), true);
            is("end(1)", x.end(1), false);
            is("house()", x.house(), 0);
            is("walk()", x.walk(), -2);
            is("sentence()", x.sentence(), -1);
            is("days(1) of an empty HOUSE", x.days(1), 1);
        });
    }

    private static void feed() {
        promise(2, "Twenty bytes come behind the tape, of each number the highest first: how many it has;", () -> {
            RugReader x = new RugReader();
            // "fade 7;" from the highest byte of the first number on, and what comes behind.
            is("feed", x.feed(0x66616465, 0x20373B0A, 0x0A0A0A0A, 0x20202020, 0x0A0A0A20), 20);
            is("feed behind", x.feed(0x72756720, 0x3220333B, 0, 0, 0), 40);
            is("end", x.end(28), true);
            is("house()", x.house(), 2);
            is("count(6)", x.count(6), 7);
            is("count(0)", x.count(0), 2);
            is("count(1)", x.count(1), 3);
            // Numbers below 0 and bytes above 127.
            RugReader y = of("rug 2 2;fade 9;person a 9 1 1;way p 0 0;way q 0 0;way r 0 0;");
            is("feed", y.feed(0x0000F3FF, 0, 0, 0, 0), 20);
            y.end(4);
            is("a byte of 243 and one of 255", y.readings(), 1);
            is("feed", y.feed(-1, -1, -1, -1, -1), 20);
            is("house() of bytes of 255", y.house(), -1);
            is("feed", y.feed(0x66616465, 0xE5202020, 0, 0, 0), 20);
            is("house() with a byte of 229", y.house(), -5);
            // All five numbers, byte by byte.
            for (int at = 0; at < 20; at++) {
                int[] five = {0x20202020, 0x20202020, 0x20202020, 0x20202020, 0x20202020};
                five[at / 4] ^= (0x20 ^ 'x') << 24 - 8 * (at % 4);
                y.feed(five[0], five[1], five[2], five[3], five[4]);
                is("a letter at " + at, y.house(), -1 - at);
            }
        });
        promise(2, "NONE, and none come, if it would have more than 940.", () -> {
            RugReader x = new RugReader();
            for (int i = 1; i <= 47; i++) {
                is("feed", x.feed(i == 1 ? 0x7A7A7A7A : 0x20202020, 0, 0, 0, 0), 20 * i);
            }
            is("the 48th", x.feed(0x66616465, 0x20373B0A, 0, 0, 0), -1);
            is("count(8)", x.count(8), 940);
            for (int n : new int[] {939, 930, 921}) {
                is("end(" + n + ")", x.end(n), true);
                is("feed to " + (n + 20), x.feed(1, 1, 1, 1, 1), -1);
                is("count(8)", x.count(8), n);
            }
            is("end(920)", x.end(920), true);
            is("feed to 940", x.feed(1, 1, 1, 1, 1), 940);
            is("feed to 960", x.feed(1, 1, 1, 1, 1), -1);
            is("none came: the tape", x.count(8), 940);
        });
    }

    private static void end() {
        promise(3, "The tape has its first n bytes alone: true;", () -> {
            RugReader x = new RugReader();
            is("end(0) of an empty tape", x.end(0), true);
            x.feed(0x66616465, 0x20373B2A, 0x2A2A2A2A, 0x2A2A2A2A, 0x2A2A2A2A);
            is("end(20)", x.end(20), true);
            is("count(8)", x.count(8), 20);
            is("end(19)", x.end(19), true);
            is("count(8)", x.count(8), 19);
            is("end(7)", x.end(7), true);
            is("end(7) again", x.end(7), true);
            x.feed(0x72756720, 0x3220333B, 0, 0, 0);
            is("what comes comes behind them", x.count(8), 27);
            x.end(15);
            is("house()", x.house(), 2);
            x.feed(0x66616465, 0x20373B2A, 0, 0, 0);
            is("end(0)", x.end(0), true);
            is("count(8)", x.count(8), 0);
            is("house() of none", x.house(), 0);
        });
        promise(3, "false, if it has not so many, or n is below 0.", () -> {
            RugReader x = new RugReader();
            is("end(1) of an empty tape", x.end(1), false);
            x.feed(0x66616465, 0x20373B20, 0x20202020, 0x20202020, 0x20202020);
            for (int n : new int[] {21, 22, 940, MAX, -1, -2, MIN}) {
                is("end(" + n + ")", x.end(n), false);
                is("count(8)", x.count(8), 20);
            }
            is("the tape stays", x.house(), 1);
            is("end(1) behind house()", x.end(1), false);
        });
    }

    private static void house() {
        promise(4, "The tape (empty then, with a FAULT, too, here and below) is the HOUSE now: how many LINES;", () -> {
            RugReader x = new RugReader();
            tell(x, "rug 2 2;person a 1 1 1;");
            is("house()", x.house(), 2);
            is("the tape is empty", x.count(8), 0);
            tell(x, "rug 3 3");
            is("house() with a FAULT", x.house(), -8);
            is("the tape is empty", x.count(8), 0);
            tell(x, "a 0 0;");
            is("walk()", x.walk(), -1);
            is("the tape is empty", x.count(8), 0);
            tell(x, "a 0 0");
            is("walk() with a FAULT", x.walk(), -7);
            is("the tape is empty", x.count(8), 0);
            tell(x, "pace=1");
            is("sentence()", x.sentence(), 1);
            is("the tape is empty", x.count(8), 0);
            tell(x, "pace=");
            is("sentence() with a FAULT", x.sentence(), -6);
            is("the tape is empty", x.count(8), 0);
            readings(x, 1, 0, 0, 0, 255);
            readings(x, -1, 0, 0, 0);
            tell(x, "");
            is("house() of an empty tape", x.house(), 0);
            is("it is empty", x.count(2), 0);
            tell(x, "rug 2 2;fade 1;rug 2 2;");
            is("a third LINE's FAULT", x.house(), -16);
            // Nothing of a HOUSE that was is in a later one.
            RugReader y = new RugReader();
            for (int i = 0; i < 3; i++) {
                fullThenEmpty(y);
            }
            tell(x, "rug 2 2;fade 1;wall 0 0;door 0 0;");
            is("house()", x.house(), 4);
        });
        promise(4, "-1 less the place of a FAULT: it stays.", () -> {
            RugReader x = of("rug 2 2;person a 3 1 9;person b 5 2 9;way p 0 0 e 1;way q 1 1 n 1;fade 4;door 0 0;");
            x.goes(0, 0, 1);
            x.days(1);
            x.beat(0, 0);
            sentence(x, "trod p", 1, 0);
            String was = state(x);
            String[] bad = {"?", "rug 3 3;person c 1 1 1;way r 0 0;fade 1;wall 0 0;door 0 0;?", "rug 3 3"};
            int[] places = {0, 58, 7};
            for (int i = 0; i < bad.length; i++) {
                tell(x, bad[i]);
                is("house() of '" + bad[i] + "'", x.house(), -1 - places[i]);
                is("fault()", x.fault(), 1);
                tell(x, "trod p");
                is("names stay", x.sentence(), 1);
                same("it stays", state(x), was);
            }
            is("its acts can be undone", x.undo(), 2);
        });
    }

    private static void fullThenEmpty(RugReader y) {
        tell(y, BoundaryOfTexts.full().replace("way pa 0 11;", "way pa 0 11 e 3;"));
        is("a full HOUSE", y.house(), 52);
        is("its first WAY", y.way(0, 3), 135);
        is("its first WAY ends", y.way(0, 4), -1);
        tell(y, "");
        is("an empty HOUSE", y.house(), 0);
        int[] due = {0, 0, 0, 0, 0, 0, 9, 0, 0};
        for (int what = 0; what < due.length; what++) {
            is("count(" + what + ")", y.count(what), due[what]);
        }
        tell(y, "rug 12 12;wall 11 11;");
        is("a HOUSE of a wall", y.house(), 2);
        for (int at : new int[] {0, 1, 9, 33, 60, 67}) {
            is("a wall that was", y.tuft(at, 6), 0);
            is("a door that was", y.tuft(at, 7), 0);
        }
        is("a wall", y.tuft(143, 6), 1);
        is("seen(0, 1) without doors", y.seen(0, 1), -1);
    }

    private static void fault() {
        promise(5, "The kind of the FAULT of the latest house(), walk() or sentence();", () -> {
            RugReader x = of("rug 2 2;person a 1 1 9;way p 0 0;");
            String[] houses = {"?", "fade 0;", "fade 1;fade", "rug 2 2;way p 0 0 n 1;"};
            int[] kinds = {1, 2, 3, 5};
            for (int i = 0; i < houses.length; i++) {
                tell(x, houses[i]);
                x.house();
                is("fault() of '" + houses[i] + "'", x.fault(), kinds[i]);
            }
            walk(x, "z 0 0;", -2, 3);
            sentence(x, "weight", -7, 1);
            walk(x, "a 2 0;", -4, 2);
            sentence(x, "trod z", -6, 3);
            sentence(x, "((((((((weight=1", -9, 4);
            // Other calls leave it, whatever they answer.
            readings(x, -1, 1);
            x.goes(9, 9, 9);
            x.goes(0, 0, 0);
            x.undo();
            x.image(0);
            x.restore(0);
            is("fault() yet", x.fault(), 4);
        });
        promise(5, "0 without one and ahead of any.", () -> {
            RugReader x = new RugReader();
            is("ahead of any", x.fault(), 0);
            x.feed(0x3F3F3F3F, 0, 0, 0, 0);
            is("a tape alone is none", x.fault(), 0);
            is("house()", x.house(), -1);
            is("a FAULT", x.fault(), 1);
            tell(x, "rug 2 2;person a 1 1 9;");
            x.house();
            is("house() without one", x.fault(), 0);
            walk(x, "z", -2, 3);
            walk(x, "a 0 0;", -1, 0);
            walk(x, "z", -2, 3);
            walk(x, "a 0 0;n 1 1;", 1, 0);
            sentence(x, "", -1, 1);
            sentence(x, "pace=1", 1, 0);
        });
    }

    private static void person() {
        promise(6, "Of a person: 0 WEIGHT, 1 SOLE, 2 PACE, 3 treads that lie yet, 4 on how many TUFTS, 5 walks so far.",
                () -> {
            RugReader x = of("rug 3 3;fade 2;person a 9 0 1;person b 1 9 9;person c 2 3 4;person d 1 1 1;person f 1 1 1;"
                    + "person g 5 6 7;way p 0 0 e 2 w 2;way q 2 2;");
            int[][] due = {{9, 0, 1, 0, 0, 0}, {1, 9, 9, 0, 0, 0}, {2, 3, 4, 0, 0, 0}, {5, 6, 7, 0, 0, 0}};
            int[] who = {0, 1, 2, 5};
            for (int i = 0; i < who.length; i++) {
                for (int what = 0; what < 6; what++) {
                    is("person(" + who[i] + ", " + what + ")", x.person(who[i], what), due[i][what]);
                }
            }
            x.goes(5, 0, 0);
            x.goes(5, 1, 5);
            walksOf(x, 6, 4, 2);
            x.goes(0, 0, 5);
            walksOf(x, 6, 4, 2);
            x.beat(0, 1);
            walksOf(x, 2, 2, 2);
            x.days(1);
            x.goes(5, 1, 5);
            walksOf(x, 3, 2, 3);
            x.days(1);
            walksOf(x, 1, 1, 3);
            x.days(1);
            walksOf(x, 0, 0, 3);
            x.goes(5, 9, 5);
            walksOf(x, 0, 0, 3);
        });
        promise(6, "NoSuchElementException: no such ones.", () -> {
            RugReader x = of(HOUSE);
            for (int far : FAR) {
                none("person(" + far + ", 0)", () -> x.person(far, 0));
                none("person(0, " + far + ")", () -> x.person(0, far));
            }
            none("person(-1, 0)", () -> x.person(-1, 0));
            none("person(2, 5)", () -> x.person(2, 5));
            none("person(0, -1)", () -> x.person(0, -1));
            none("person(0, 6)", () -> x.person(0, 6));
            is("person(1, 5)", x.person(1, 5), 0);
            RugReader y = new RugReader();
            none("person(0, 0) of an empty HOUSE", () -> y.person(0, 0));
        });
    }

    /** Treads, TUFTS, walks of person 5. */
    private static void walksOf(RugReader x, int treads, int tufts, int walks) {
        is("treads that lie yet", x.person(5, 3), treads);
        is("on how many TUFTS", x.person(5, 4), tufts);
        is("walks so far", x.person(5, 5), walks);
    }

    private static void tuft() {
        promise(7, "Of a TUFT: 0 DEPTH, 1 treads that lie, 2 the person, 3 the SOLE, 4 the DIR of that ON TOP (NONE: "
                + "nothing lies), 5 its age (NONE), 6 a wall, 7 a door (1, 0).", () -> {
            RugReader x = of(HOUSE);
            lies(x, 0, 0, 0, -1, -1, -1, -1, 0, 1);
            lies(x, 14, 0, 0, -1, -1, -1, -1, 1, 0);
            x.goes(1, 0, 0);
            lies(x, 0, 20, 1, 1, 1, 1, 0, 0, 1);
            x.days(3);
            lies(x, 4, 5, 1, 1, 1, 1, 3, 0, 0);
            x.goes(0, 1, 1);
            lies(x, 24, 12, 1, 0, 2, 0, 0, 0, 0);
            lies(x, 0, 17, 2, 0, 2, 1, 0, 0, 1);
            lies(x, 28, 0, 0, -1, -1, -1, -1, 0, 1);
            x.days(1);
            lies(x, 4, 0, 0, -1, -1, -1, -1, 0, 0);
            x.beat(0, 0);
            lies(x, 0, 0, 0, -1, -1, -1, -1, 0, 1);
            RugReader y = of("rug 12 12;person a 9 9 9;way p 11 11;way q 11 10 s 1;wall 11 11;door 11 11;");
            y.goes(0, 0, 0);
            lies(y, 143, 81, 1, 0, 9, 0, 0, 1, 1);
            y.goes(0, 1, 0);
            lies(y, 143, 162, 2, 0, 9, 2, 0, 1, 1);
        });
        promise(7, "NoSuchElementException: no such ones.", () -> {
            RugReader x = of(HOUSE);
            for (int far : FAR) {
                none("tuft(" + far + ", 0)", () -> x.tuft(far, 0));
                none("tuft(0, " + far + ")", () -> x.tuft(0, far));
            }
            for (int at : new int[] {-1, 5, 11, 17, 36, 40, 143}) {
                none("tuft(" + at + ", 0)", () -> x.tuft(at, 0));
                none("tuft(" + at + ", 6)", () -> x.tuft(at, 6));
            }
            none("tuft(0, -1)", () -> x.tuft(0, -1));
            none("tuft(0, 8)", () -> x.tuft(0, 8));
            is("tuft(28, 7)", x.tuft(28, 7), 1);
            RugReader y = new RugReader();
            none("tuft(0, 0) of an empty HOUSE", () -> y.tuft(0, 0));
            RugReader z = of("rug 12 12;");
            is("tuft(143, 0)", z.tuft(143, 0), 0);
            none("tuft(144, 0)", () -> z.tuft(144, 0));
        });
    }

    private static void way() {
        promise(8, "TUFT i of a WAY (0: the first);", () -> {
            RugReader x = of("rug 12 12;way p 0 0 e 11 s 11 w 11 n 7;way q 3 2;way r 0 2 n 2 e 1;way t 0 0;way u 1 0;"
                    + "way v 2 0 e 1;");
            int[] due = {24, 12, 0, 1};
            for (int i = 0; i < due.length; i++) {
                is("way(2, " + i + ")", x.way(2, i), due[i]);
            }
            is("way(0, 0)", x.way(0, 0), 0);
            is("way(0, 11)", x.way(0, 11), 11);
            is("way(0, 40)", x.way(0, 40), 48);
            is("way(1, 0)", x.way(1, 0), 27);
            is("way(5, 1)", x.way(5, 1), 3);
        });
        promise(8, "NONE: no such ones.", () -> {
            RugReader x = of("rug 12 12;way p 0 0 e 11 s 11 w 11 n 7;way q 3 2;");
            for (int far : FAR) {
                is("way(" + far + ", 0)", x.way(far, 0), -1);
                is("way(0, " + far + ")", x.way(0, far), -1);
            }
            is("way(-1, 0)", x.way(-1, 0), -1);
            is("way(2, 0)", x.way(2, 0), -1);
            is("way(0, -1)", x.way(0, -1), -1);
            is("way(0, 41)", x.way(0, 41), -1);
            is("way(1, 1)", x.way(1, 1), -1);
            is("way(1, -1)", x.way(1, -1), -1);
            tell(x, "rug 12 12;way p 0 0 e 1;");
            x.house();
            is("a shorter WAY of a new HOUSE", x.way(0, 2), -1);
            is("a WAY less of a new HOUSE", x.way(1, 0), -1);
            is("of an empty HOUSE", new RugReader().way(0, 0), -1);
        });
    }

    private static void goes() {
        promise(9, "A person goes along a WAY in the soles of another one (or its own): how many treads;", () -> {
            RugReader x = of("rug 12 12;person a 3 1 1;person b 5 2 1;way p 0 0 e 11 s 11 w 11 n 7;way q 3 2;"
                    + "way r 5 5 e 1 w 1;");
            is("41 treads", x.goes(0, 0, 0), 41);
            is("one tread", x.goes(0, 1, 1), 1);
            is("three treads on two TUFTS", x.goes(1, 2, 0), 3);
            lies(x, 0, 27, 1, 0, 1);
            lies(x, 27, 27, 1, 0, 2);
            lies(x, 65, 90, 2, 1, 1);
            is("treads", x.person(0, 3), 42);
            is("treads", x.person(1, 3), 3);
            is("walks of who lent the soles", x.person(1, 5), 1);
            // A wall told behind the WAY is no wall to it.
            RugReader y = of("rug 3 3;person a 1 1 1;way p 0 0 e 2;wall 1 0;");
            is("over a wall told later", y.goes(0, 0, 0), 3);
            lies(y, 1, 9, 1, 0, 1, 1, 0, 1, 0);
        });
        promise(9, "NONE: no such ones.", () -> {
            RugReader x = of(HOUSE);
            x.goes(0, 0, 0);
            for (int far : FAR) {
                is("goes(" + far + ", 0, 0)", x.goes(far, 0, 0), -1);
                is("goes(0, " + far + ", 0)", x.goes(0, far, 0), -1);
                is("goes(0, 0, " + far + ")", x.goes(0, 0, far), -1);
            }
            for (int far : new int[] {-1, 2}) {
                is("goes(" + far + ", 0, 0)", x.goes(far, 0, 0), -1);
                is("goes(0, " + far + ", 0)", x.goes(0, far, 0), -1);
                is("goes(0, 0, " + far + ")", x.goes(0, 0, far), -1);
            }
            is("no walks", x.person(0, 5), 1);
            is("no treads", x.tuft(0, 1), 1);
            is("no acts", x.undo(), 0);
            is("without WAYS", of("person a 1 1 1;").goes(0, 0, 0), -1);
            is("without people", of("rug 2 2;way p 0 0;").goes(0, 0, 0), -1);
        });
    }

    private static void days() {
        promise(10, "n (1 to 20) DAYS go: the DAY then;", () -> {
            RugReader x = of(HOUSE);
            is("days(1)", x.days(1), 1);
            is("days(20)", x.days(20), 21);
            x.goes(0, 0, 0);
            is("days(3)", x.days(3), 24);
            lies(x, 0, 3, 1, 0, 1, 1, 3);
            x.goes(0, 0, 0);
            is("days(20)", x.days(20), 44);
            nothingLies(x, 0);
            is("count(7)", x.count(7), 44);
            is("of an empty HOUSE", new RugReader().days(20), 20);
        });
        promise(10, "NONE: not as told,", () -> {
            RugReader x = of(HOUSE);
            x.goes(0, 0, 0);
            for (int n : new int[] {0, -1, -20, 21, 22, 999, MIN, MAX, MAX - 1}) {
                is("days(" + n + ")", x.days(n), -1);
                is("count(7)", x.count(7), 0);
            }
            lies(x, 0, 12, 1, 0, 1, 1, 0);
            is("no acts", x.undo(), 0);
        });
        promise(10, "it would be above 999.", () -> {
            RugReader x = of(HOUSE);
            for (int day = 20; day <= 980; day += 20) {
                is("days(20)", x.days(20), day);
            }
            is("to 1000", x.days(20), -1);
            is("count(7)", x.count(7), 980);
            is("to 999", x.days(19), 999);
            x.goes(0, 0, 0);
            is("to 1000", x.days(1), -1);
            is("to 1019", x.days(20), -1);
            is("count(7)", x.count(7), 999);
            lies(x, 0, 12, 1, 0, 1, 1, 0);
            is("undo() of the walk", x.undo(), 5);
            is("undo() of the DAYS", x.undo(), 4);
            is("the DAY then", x.count(7), 980);
            is("to 990", x.days(10), 990);
            is("to 1000", x.days(10), -1);
            is("to 999", x.days(9), 999);
        });
    }

    private static void beat() {
        promise(11, "The part of the rug between two TUFTS (corners) is BEATEN: on how many of them something lay;", () -> {
            int[][] corners = {{13, 38}, {38, 13}, {14, 37}, {37, 14}};
            for (int[] c : corners) {
                RugReader x = of("rug 4 4;person a 1 1 1;way p 0 0 e 3 s 1 w 3 s 1 e 3 s 1 w 3;");
                x.goes(0, 0, 0);
                is("beat(" + c[0] + ", " + c[1] + ")", x.beat(c[0], c[1]), 6);
                for (int at = 0; at < 48; at++) {
                    if (at % 12 < 4) {
                        boolean in = at % 12 > 0 && at % 12 < 3 && at > 11;
                        is("treads on " + at, x.tuft(at, 1), in ? 0 : 1);
                    }
                }
            }
            RugReader x = of(HOUSE);
            is("a clean rug", x.beat(0, 28), 0);
            x.goes(0, 0, 0);
            is("one TUFT", x.beat(2, 2), 1);
            is("one TUFT again", x.beat(2, 2), 0);
            is("all of it", x.beat(28, 0), 4);
            is("all of it again", x.beat(0, 28), 0);
            RugReader y = of("rug 12 12;person a 1 1 1;way p 11 0 s 11 w 11;");
            y.goes(0, 0, 0);
            is("all of a whole rug", y.beat(132, 11), 23);
        });
        promise(11, "NONE: no such ones.", () -> {
            RugReader x = of(HOUSE);
            x.goes(0, 0, 0);
            for (int far : FAR) {
                is("beat(" + far + ", 0)", x.beat(far, 0), -1);
                is("beat(0, " + far + ")", x.beat(0, far), -1);
            }
            for (int at : new int[] {-1, 5, 36, 17, 143}) {
                is("beat(" + at + ", 0)", x.beat(at, 0), -1);
                is("beat(0, " + at + ")", x.beat(0, at), -1);
            }
            is("it lies", x.tuft(0, 1), 1);
            is("no acts", x.undo(), 0);
            is("of an empty HOUSE", new RugReader().beat(0, 0), -1);
        });
    }

    private static void undo() {
        promise(12, "The latest of goes(), days(), beat(), house drawn by years() is undone: how many more can be (6 at "
                + "most are kept);", () -> {
            String house = "rug 2 2;person a 3 1 9;person b 5 2 9;way p 0 0 e 1;way q 1 1 n 1;fade 4;";
            RugReader x = of(house);
            String[] was = new String[4];
            was[0] = state(x);
            x.goes(0, 0, 1);
            was[1] = state(x);
            x.beat(0, 0);
            is("undo() of beat()", x.undo(), 1);
            same("undone", state(x), was[1]);
            is("undo() of goes()", x.undo(), 0);
            same("undone", state(x), was[0]);
            RugReader w = of(house);
            w.goes(0, 0, 1);
            w.beat(0, 0);
            was[2] = state(w);
            w.days(2);
            was[3] = state(w);
            w.years(3, 2, 77);
            is("undo() of years()", w.undo(), 3);
            same("undone", state(w), was[3]);
            is("undo() of days()", w.undo(), 2);
            same("undone", state(w), was[2]);
            // All of the tread ON TOP comes back: person, SOLE, DIR, age.
            RugReader z = of(house);
            z.goes(0, 0, 0);
            z.days(1);
            lies(z, 1, 9, 1, 0, 1, 1, 1);
            z.goes(1, 1, 1);
            lies(z, 1, 29, 2, 1, 2, 0, 0);
            is("undo()", z.undo(), 2);
            lies(z, 1, 9, 1, 0, 1, 1, 1);
            RugReader y = of(house);
            for (int i = 0; i < 9; i++) {
                y.goes(0, 0, 0);
            }
            for (int i = 5; i >= 0; i--) {
                is("undo() of six kept", y.undo(), i);
                is("treads", y.tuft(0, 1), 3 + i);
            }
            is("a seventh", y.undo(), -1);
            is("treads", y.tuft(0, 1), 3);
            y.goes(0, 0, 0);
            y.beat(13, 13);
            is("a beat of nothing is undone, too", y.undo(), 1);
            y.days(1);
            is("undo()", y.undo(), 1);
            is("undo()", y.undo(), 0);
            is("treads", y.tuft(0, 1), 3);
            for (int i = 1; i <= 7; i++) {
                y.days(i);
            }
            is("undo() of the seventh", y.undo(), 5);
            is("the DAY", y.count(7), 21);
        });
        promise(12, "NONE: none is.", () -> {
            RugReader x = of(HOUSE);
            is("ahead of any act", x.undo(), -1);
            x.goes(9, 0, 0);
            x.days(0);
            x.beat(-1, 0);
            x.years(0, 1, 1);
            is("calls that did nothing", x.undo(), -1);
            x.goes(0, 0, 0);
            is("one act", x.undo(), 0);
            is("no more", x.undo(), -1);
            is("and no more", x.undo(), -1);
            x.goes(0, 0, 0);
            x.image(0);
            x.restore(0);
            is("behind restore()", x.undo(), -1);
            x.goes(0, 0, 0);
            tell(x, HOUSE);
            x.house();
            is("behind house()", x.undo(), -1);
            sentence(x, "weight=1", 1, 0);
            walk(x, "a 0 0;", -1, 0);
            x.image(0);
            is("those are no acts", x.undo(), -1);
        });
    }

    private static void hidden() {
        promise(13, "HIDDEN TUFTS: how many (k NONE), or the k-th (rising);", () -> {
            RugReader x = of("rug 12 12;person a 1 1 1;way p 11 11 w 11 n 11 e 11 s 7;");
            is("none", x.hidden(-1), 0);
            x.goes(0, 0, 0);
            x.beat(131, 107);
            x.beat(1, 0);
            x.beat(143, 143);
            is("how many", x.hidden(-1), 3);
            int[] due = {0, 1, 143};
            for (int k = 0; k < due.length; k++) {
                is("hidden(" + k + ")", x.hidden(k), due[k]);
            }
            x.beat(0, 143);
            is("all", x.hidden(-1), 41);
            is("hidden(40)", x.hidden(40), 143);
            is("hidden(12)", x.hidden(12), 12);
        });
        promise(13, "NONE: none such.", () -> {
            RugReader x = of(HOUSE);
            is("hidden(0) of none", x.hidden(0), -1);
            x.goes(0, 0, 0);
            x.beat(0, 1);
            is("hidden(1)", x.hidden(1), 1);
            is("hidden(2)", x.hidden(2), -1);
            is("hidden(-2)", x.hidden(-2), -1);
            for (int far : FAR) {
                is("hidden(" + far + ")", x.hidden(far), -1);
            }
            x.days(4);
            is("hidden(0) when it would be gone", x.hidden(0), -1);
        });
        promise(14, "What is missing on a TUFT: the DEPTH that it would have more;", () -> {
            RugReader x = of(HOUSE);
            is("of a clean rug", x.missing(0), 0);
            x.goes(0, 0, 0);
            x.goes(1, 0, 1);
            is("of what lies", x.missing(0), 0);
            x.beat(0, 0);
            is("missing(0)", x.missing(0), 32);
            is("missing(1)", x.missing(1), 0);
            x.goes(0, 0, 0);
            is("what lies since is not missing", x.missing(0), 32);
            x.days(3);
            is("a DAY ahead of its end", x.missing(0), 8);
            x.beat(0, 0);
            is("more of it", x.missing(0), 11);
            x.undo();
            is("undone", x.missing(0), 8);
            x.days(1);
            is("it would be gone", x.missing(0), 0);
            // What is beaten on its last DAY, and DAYS that come over nine.
            RugReader y = of("rug 2 2;person a 1 1 1;way p 0 0;");
            y.goes(0, 0, 0);
            y.days(8);
            y.beat(0, 0);
            is("the last DAY", y.missing(0), 1);
            y.goes(0, 0, 0);
            y.beat(0, 0);
            is("the first and the last", y.missing(0), 10);
            y.days(1);
            is("one of them", y.missing(0), 8);
            y.days(7);
            is("its last DAY", y.missing(0), 1);
            y.days(1);
            is("gone", y.missing(0), 0);
        });
        promise(14, "NONE: no such one.", () -> {
            RugReader x = of(HOUSE);
            for (int far : FAR) {
                is("missing(" + far + ")", x.missing(far), -1);
            }
            for (int at : new int[] {-1, 5, 36, 143}) {
                is("missing(" + at + ")", x.missing(at), -1);
            }
            is("missing(28)", x.missing(28), 0);
            is("missing(14), a wall", x.missing(14), 0);
            is("of an empty HOUSE", new RugReader().missing(0), -1);
        });
    }

    private static void solesAndDeepest() {
        promise(15, "TUFTS on which the tread ON TOP is of a SOLE: how many.", () -> {
            RugReader x = of("rug 5 3;fade 2;person a 3 0 2;person b 5 9 1;way p 0 0 e 4;way q 0 2 n 2 e 1;");
            int[] none = {-1, 0, 1, 9, 10, MIN, MAX};
            for (int sole : none) {
                is("soles(" + sole + ") of a clean rug", x.soles(sole), 0);
            }
            x.goes(0, 0, 0);
            is("soles(0)", x.soles(0), 5);
            x.goes(1, 1, 1);
            is("soles(9)", x.soles(9), 4);
            is("soles(0) below", x.soles(0), 3);
            is("soles(-1)", x.soles(-1), 0);
            is("soles(10)", x.soles(10), 0);
            x.goes(1, 0, 0);
            is("soles(0) of another one", x.soles(0), 5);
            is("soles(9) below", x.soles(9), 2);
            x.days(1);
            x.beat(0, 0);
            is("soles(0) beaten", x.soles(0), 4);
            x.days(1);
            is("soles(0) gone", x.soles(0), 0);
            is("soles(-1)", x.soles(-1), 0);
        });
        promise(16, "The deepest TUFT (of like ones the first by number);", () -> {
            RugReader x = of("rug 12 12;person a 1 1 1;person b 1 1 1;way p 11 11;way q 10 11 e 1;way r 0 0;"
                    + "way t 11 0;");
            x.goes(0, 0, 0);
            is("one alone, the last", x.deepest(), 143);
            x.goes(0, 2, 0);
            is("of like ones the first", x.deepest(), 0);
            x.goes(0, 3, 0);
            is("of three like ones", x.deepest(), 0);
            x.goes(1, 1, 1);
            is("the deeper one", x.deepest(), 143);
            x.beat(143, 143);
            is("beaten", x.deepest(), 0);
            x.days(8);
            is("DEPTH of 1", x.deepest(), 0);
            x.beat(0, 0);
            is("beaten", x.deepest(), 11);
        });
        promise(16, "NONE: nothing lies.", () -> {
            RugReader x = of(HOUSE);
            is("of a clean rug", x.deepest(), -1);
            x.goes(0, 0, 0);
            x.days(3);
            is("something lies", x.deepest(), 0);
            x.days(1);
            is("all is gone", x.deepest(), -1);
            x.goes(0, 0, 0);
            x.beat(0, 4);
            is("all is beaten", x.deepest(), -1);
            is("of an empty HOUSE", new RugReader().deepest(), -1);
        });
    }

    private static void whoAndAge() {
        String house = "fade 3;person a 1 1 1;person b 2 1 1;person c 3 1 1;person d 9 1 1;person f 2 1 1;"
                + "person g 6 1 1;";
        promise(17, "Who can have made a print of a DEPTH by one tread, as bits;", () -> {
            RugReader x = of(house);
            int[][] due = {{1, 1}, {2, 1 + 2 + 16}, {3, 1 + 4}, {4, 2 + 16}, {6, 2 + 4 + 16 + 32}, {9, 4 + 8},
                {12, 32}, {18, 8 + 32}, {27, 8}};
            for (int[] d : due) {
                is("who(" + d[0] + ")", x.who(d[0]), d[1]);
            }
            RugReader y = of("person a 9 1 1;");
            is("the least of nine DAYS", y.who(9), 1);
            is("the most of nine DAYS", y.who(81), 1);
            is("no more", y.who(90), -1);
            // It can have been: nothing need lie.
            is("on a clean rug", of(HOUSE).who(12), 1);
        });
        promise(17, "NONE: nobody.", () -> {
            RugReader x = of(house);
            for (int depth : new int[] {0, -1, -9, 5, 7, 8, 10, 28, 36, MIN, MAX}) {
                is("who(" + depth + ")", x.who(depth), -1);
            }
            is("of an empty HOUSE", new RugReader().who(9), -1);
            is("without people", of("rug 2 2;").who(1), -1);
        });
        promise(18, "How old a print of a DEPTH by one tread of a person is;", () -> {
            RugReader x = of(house);
            for (int a = 0; a < 3; a++) {
                is("age(3, " + 9 * (3 - a) + ")", x.age(3, 9 * (3 - a)), a);
                is("age(0, " + (3 - a) + ")", x.age(0, 3 - a), a);
                is("age(5, " + 6 * (3 - a) + ")", x.age(5, 6 * (3 - a)), a);
            }
            RugReader y = of("person a 9 1 1;");
            is("age(0, 81)", y.age(0, 81), 0);
            is("age(0, 9)", y.age(0, 9), 8);
            is("fade 1", of("fade 1;person a 9 1 1;").age(0, 9), 0);
        });
        promise(18, "NONE: no such one, it can't be.", () -> {
            RugReader x = of(house);
            for (int far : FAR) {
                is("age(" + far + ", 6)", x.age(far, 6), -1);
                is("age(0, " + far + ")", x.age(0, far), -1);
            }
            is("age(-1, 1)", x.age(-1, 1), -1);
            is("age(6, 1)", x.age(6, 1), -1);
            is("age(0, 0)", x.age(0, 0), -1);
            is("age(0, -1)", x.age(0, -1), -1);
            is("age(0, 4)", x.age(0, 4), -1);
            is("age(3, 26)", x.age(3, 26), -1);
            is("age(3, 28)", x.age(3, 28), -1);
            is("age(3, 36)", x.age(3, 36), -1);
            is("age(3, -9)", x.age(3, -9), -1);
            is("fade 1", of("fade 1;person a 9 1 1;").age(0, 18), -1);
            is("of an empty HOUSE", new RugReader().age(0, 9), -1);
        });
    }

    private static void readings() {
        promise(19, "READINGS by the tape (1 to 8 TUFTS of four bytes: X, Y, DEPTH, and SOLE or 255): how many;", () -> {
            RugReader x = of("rug 3 3;fade 4;person a 3 0 2;person b 5 9 1;way p 0 0 e 2;way q 2 2 n 2;");
            readings(x, 3, 0, 0, 12, 0);
            readings(x, 3, 0, 0, 20, 9);
            readings(x, 0, 0, 0, 20, 0);
            readings(x, 3, 0, 0, 12, 255);
            readings(x, 1, 0, 0, 12, 255, 2, 2, 20, 255, 2, 0, 32, 9);
            readings(x, 0, 0, 0, 12, 255, 2, 2, 20, 255, 2, 0, 32, 0);
            readings(x, 1, 0, 0, 12, 0, 1, 0, 12, 0, 2, 0, 32, 9, 0, 1, 0, 255, 1, 1, 0, 255, 2, 1, 20, 9, 0, 2, 0, 255,
                    2, 2, 20, 9);
            readings(x, 0, 0, 0, 12, 0, 1, 0, 12, 0, 2, 0, 32, 9, 0, 1, 0, 255, 1, 1, 0, 255, 2, 1, 20, 9, 0, 2, 0, 255,
                    2, 2, 20, 0);
            readings(x, 9, 0, 1, 0, 255);
            readings(x, 0, 0, 1, 255, 255);
            readings(x, 3, 0, 0, 0, 255);
            // A TUFT told twice is so both times.
            readings(x, 3, 0, 0, 12, 255, 0, 0, 12, 0);
            readings(x, 0, 0, 0, 12, 255, 0, 0, 20, 255);
            readings(of("rug 2 2;"), 1, 1, 1, 0, 255);
            readings(of("rug 2 2;"), 0, 1, 1, 1, 255);
            readings(of("rug 2 2;way p 1 1;"), 1, 1, 1, 0, 255);
            readings(of("rug 12 12;"), 1, 11, 11, 0, 255);
        });
        promise(19, "NONE: not as told.", () -> {
            RugReader x = of("rug 2 3;fade 4;person a 3 0 2;way p 0 0 e 1;");
            readings(x, 2, 0, 1, 0, 255);
            readings(x, -1);
            readings(x, -1, 0);
            readings(x, -1, 0, 0, 0);
            readings(x, -1, 0, 0, 0, 255, 0);
            readings(x, -1, new int[36]);
            readings(x, -1, new int[33]);
            readings(x, 0, new int[32]);
            readings(x, -1, 2, 0, 0, 255);
            readings(x, -1, 0, 3, 0, 255);
            readings(x, -1, 255, 0, 0, 255);
            readings(x, -1, 0, 255, 0, 255);
            readings(x, -1, 0, 0, 0, 10);
            readings(x, -1, 0, 0, 0, 254);
            readings(x, -1, 0, 0, 0, 128);
            readings(x, 0, 0, 0, 0, 9);
            readings(x, 0, 0, 0, 0, 0);
            readings(x, -1, 0, 0, 12, 0, 1, 0, 12, 0, 0, 3, 0, 255);
            readings(x, -1, 0, 0, 12, 0, 1, 0, 12, 10);
            readings(x, 1, 1, 2, 0, 255, 0, 0, 12, 255);
            readings(new RugReader(), -1, 0, 0, 0, 255);
            readings(of("person a 1 1 1;"), -1, 0, 0, 0, 255);
        });
    }

    private static void read() {
        String house = "rug 3 3;fade 4;person a 3 0 2;person b 5 9 1;way p 0 0 e 2;way q 2 2 n 2;";
        promise(20, "Who walked a WAY by the first of the latest readings() that were 1 or more (what 0; NONE: nobody),",
                () -> {
            RugReader x = of(house);
            readings(x, 3, 0, 0, 20, 255);
            is("read(0, 0)", x.read(0, 0), 1);
            is("read(1, 0)", x.read(1, 0), -1);
            readings(x, 0, 0, 0, 21, 255);
            is("none: the latest that were more", x.read(0, 0), 1);
            readings(x, -1, 0, 0, 21);
            is("not as told: the latest that were more", x.read(0, 0), 1);
            readings(x, 1, 0, 0, 12, 255, 2, 2, 12, 255);
            is("read(0, 0)", x.read(0, 0), 0);
            is("read(1, 0)", x.read(1, 0), 0);
            readings(x, 2, 2, 0, 12, 255);
            is("the first: nobody", x.read(0, 0), -1);
            is("the first: the second one", x.read(1, 0), 0);
        });
        promise(20, "by all of them (1: the person, NONE: nobody by all; -2: some unlike).", () -> {
            RugReader x = of(house);
            readings(x, 3, 0, 0, 20, 255);
            is("the person", x.read(0, 1), 1);
            is("unlike", x.read(1, 1), -2);
            readings(x, 3, 0, 0, 0, 255);
            is("nobody by all", x.read(0, 1), -1);
            is("unlike", x.read(1, 1), -2);
            readings(x, 2, 2, 0, 32, 255);
            is("unlike people", x.read(0, 1), -2);
            is("unlike people", x.read(1, 1), -2);
            readings(x, 1, 2, 0, 32, 0);
            is("one alone", x.read(0, 1), 1);
            is("one alone", x.read(1, 1), 0);
            readings(x, 0, 2, 0, 33, 255);
            is("none: as it was", x.read(0, 1), 1);
            readings(x, 2, 2, 0, 12, 255);
            is("a person or nobody", x.read(0, 1), -2);
            readings(of("rug 2 2;way p 0 0;way q 1 1;"), 1, 0, 0, 0, 255);
            RugReader y = of("rug 2 2;way p 0 0;way q 1 1;");
            readings(y, 1, 0, 0, 0, 255);
            is("without people nobody by all", y.read(1, 1), -1);
        });
        promise(20, "-3: no such ones, or ahead of any.", () -> {
            RugReader x = of(house);
            is("ahead of any", x.read(0, 0), -3);
            is("ahead of any", x.read(0, 1), -3);
            readings(x, 0, 0, 0, 21, 255);
            is("ahead of any that were more", x.read(0, 0), -3);
            readings(x, -1, 0, 0, 21);
            is("ahead of any that were more", x.read(0, 1), -3);
            readings(x, 3, 0, 0, 0, 255);
            for (int far : FAR) {
                is("read(" + far + ", 0)", x.read(far, 0), -3);
                is("read(0, " + far + ")", x.read(0, far), -3);
            }
            is("read(-1, 0)", x.read(-1, 0), -3);
            is("read(2, 0)", x.read(2, 0), -3);
            is("read(2, 1)", x.read(2, 1), -3);
            is("read(0, -1)", x.read(0, -1), -3);
            is("read(0, 2)", x.read(0, 2), -3);
            is("read(1, 1)", x.read(1, 1), -2);
            RugReader y = of("rug 2 2;");
            readings(y, 1, 0, 0, 0, 255);
            is("without WAYS", y.read(0, 0), -3);
        });
    }

    private static void fewest() {
        promise(21, "The fewest people by any of these;", () -> {
            RugReader x = of("rug 3 3;fade 1;person a 2 0 2;person b 1 9 1;person c 4 3 1;way p 0 0;way q 0 0;way r 0 0;");
            readings(x, 1, 0, 0, 0, 255);
            is("nobody", x.fewest(), 0);
            readings(x, 6, 0, 0, 2, 255);
            is("a once, or b twice", x.fewest(), 1);
            readings(x, 6, 0, 0, 7, 255);
            is("all three", x.fewest(), 3);
            readings(x, 4, 0, 0, 5, 255, 0, 0, 5, 9);
            is("two", x.fewest(), 2);
        });
        promise(21, "NONE ahead of any.", () -> {
            RugReader x = of("rug 3 3;fade 1;person a 2 0 2;way p 0 0;");
            is("ahead of any", x.fewest(), -1);
            readings(x, 0, 0, 0, 1, 255);
            is("ahead of any that were more", x.fewest(), -1);
            readings(x, -1, 0, 0, 1);
            is("ahead of any that were more", x.fewest(), -1);
            readings(x, 1, 0, 0, 2, 255);
            is("one", x.fewest(), 1);
            readings(x, 0, 0, 0, 1, 255);
            is("none: as it was", x.fewest(), 1);
            is("of a new object", new RugReader().fewest(), -1);
        });
    }

    private static void signAndSteps() {
        promise(22, "SIGN of a person from a TUFT to another one;", () -> {
            RugReader x = of(HOUSE);
            is("sign(0, 0, 1)", x.sign(0, 0, 1), 6);
            is("sign(1, 0, 1)", x.sign(1, 0, 1), 10);
            is("sign(0, 0, 28)", x.sign(0, 0, 28), 21);
            is("sign(0, 28, 0)", x.sign(0, 28, 0), 21);
            is("one TUFT", x.sign(0, 28, 28), 3);
            x.goes(1, 0, 0);
            is("over its own", x.sign(0, 0, 4), 0);
            is("not over its own", x.sign(1, 0, 4), 25);
            x.days(4);
            is("when that is gone", x.sign(0, 0, 4), 15);
        });
        promise(23, "STEPS of it;", () -> {
            RugReader x = of(HOUSE);
            is("steps(0, 0, 1)", x.steps(0, 0, 1), 1);
            is("steps(0, 0, 28)", x.steps(0, 0, 28), 6);
            is("one TUFT", x.steps(0, 28, 28), 0);
            is("round the wall", x.steps(0, 13, 15), 4);
            x.goes(1, 0, 0);
            is("of the least SIGN", x.steps(0, 12, 16), 6);
            is("of another person's", x.steps(1, 12, 16), 6);
            is("steps(1, 0, 12)", x.steps(1, 0, 12), 1);
        });
        for (int number = 22; number <= 23; number++) {
            boolean sign = number == 22;
            promise(number, sign ? "NONE: no way, no such ones." : "NONE, likewise.", () -> {
                RugReader x = of("rug 3 2;wall 1 0;wall 1 1;person a 9 0 1;");
                int[][] wrong = {{0, 0, 2}, {0, 2, 0}, {0, 0, 1}, {0, 1, 0}, {0, 1, 1}, {0, 1, 13}, {1, 0, 0},
                    {-1, 0, 0}, {0, 3, 0}, {0, 0, 3}, {0, 24, 0}, {0, 0, 24}, {0, -1, 0}, {0, 0, -1}};
                for (int[] w : wrong) {
                    is("of " + java.util.Arrays.toString(w), sign ? x.sign(w[0], w[1], w[2]) : x.steps(w[0], w[1], w[2]),
                            -1);
                }
                for (int far : FAR) {
                    is("person " + far, sign ? x.sign(far, 0, 0) : x.steps(far, 0, 0), -1);
                    is("from " + far, sign ? x.sign(0, far, 0) : x.steps(0, far, 0), -1);
                    is("to " + far, sign ? x.sign(0, 0, far) : x.steps(0, 0, far), -1);
                }
                is("a way", sign ? x.sign(0, 2, 14) : x.steps(0, 2, 14), sign ? 18 : 1);
                RugReader y = new RugReader();
                is("of an empty HOUSE", sign ? y.sign(0, 0, 0) : y.steps(0, 0, 0), -1);
            });
        }
    }

    private static void walk() {
        String house = "rug 6 4;person a 1 1 2;wall 3 0;way p 0 0;";
        promise(24, "The tape is a WALK, it is judged: the LINE that is WRONG (0: that of the person);", () -> {
            RugReader x = of(house);
            walk(x, "a 3 0;", 0, 0);
            walk(x, "a 3 0;n 1 1;", 0, 0);
            walk(x, "a 0 0;n 1 1;", 1, 0);
            walk(x, "a 0 0;s 1 1;w 1 1;", 2, 0);
            walk(x, "a 0 0;s 1 1;e 3 1;w 9 1;", 2, 0);
            String ahead = "a 0 1;" + "e 1 2;s 1 1;e 1 1;n 1 1;w 2 2;".repeat(5) + "e 1 2;s 1 1;e 1 1;n 1 1;";
            walk(x, ahead + "w 2 1;", -1, 0);
            walk(x, ahead + "n 2 1;", 30, 0);
            is("nothing lies", x.deepest(), -1);
            is("nobody walked", x.person(0, 5), 0);
            is("no acts", x.undo(), -1);
        });
        promise(24, "NONE: none;", () -> {
            RugReader x = of(house);
            walk(x, "a 0 0;", -1, 0);
            walk(x, "a 5 3;n 3 2;w 1 1;", -1, 0);
            walk(x, "a 0 0;e 2 1;", -1, 0);
        });
        promise(24, "-2 less the place of a FAULT.", () -> {
            RugReader x = of(house);
            walk(x, "", -2, 1);
            walk(x, "z", -2, 3);
            walk(x, " z", -3, 3);
            walk(x, "a 0 0", -7, 1);
            walk(x, "a 6 0;", -4, 2);
            walk(x, "a 3 0;n 0 0;", -10, 2);
            walk(x, "a 0 0;" + wide(294) + " ", -302, 1);
            walk(x, wide(299) + "a 0 0;", -302, 1);
            walk(x, wide(299) + "b 0 0;", -301, 3);
            is("of an empty HOUSE", new RugReader().walk(), -2);
        });
    }

    private static void walked() {
        String house = "rug 6 4;person a 1 1 2;wall 3 0;way p 0 0;";
        promise(25, "Of the latest walk() that had no FAULT: 0 why it was WRONG (0: it was not), 1 TUFTS gone ahead of "
                + "that (STEPS), 2 MINUTES, 3 the TUFT then (NONE: the first is none).", () -> {
            RugReader x = of(house);
            walk(x, "a 2 1;", -1, 0);
            walked(x, 0, 0, 0, 14);
            walk(x, "a 0 0;s 3 2;e 5 99;", -1, 0);
            walked(x, 0, 8, 101, 41);
            walk(x, "a 0 0;s 1 1;e 2 1;n 1 9;e 1 9;", 4, 0);
            walked(x, 1, 4, 11, 2);
            walk(x, "a 0 0;s 1 7;e 3 1;", 2, 0);
            walked(x, 2, 1, 7, 12);
            walk(x, "a 0 1;e 1 1;w 1 1;", 2, 0);
            walked(x, 3, 1, 1, 13);
            walk(x, "a 3 0;e 1 1;", 0, 0);
            walked(x, 1, 0, 0, -1);
            walk(x, "a 0 0;s 1 1", -13, 1);
            walked(x, 1, 0, 0, -1);
            walk(x, "a 0 0;s 1 1;", -1, 0);
            walk(x, "a 6 0;", -4, 2);
            walked(x, 0, 1, 1, 12);
            walk(x, "a 0 0;w 1 1;", 1, 0);
            walked(x, 1, 0, 0, 0);
            walk(x, "a 2 1;", -1, 0);
            walked(x, 0, 0, 0, 14);
            walk(x, "a 0 0;" + "s 1 99;n 1 99;".repeat(15), -1, 0);
            walked(x, 0, 30, 2970, 0);
        });
        promise(25, "NONE: another what, or ahead of any.", () -> {
            RugReader x = of(house);
            for (int what = -1; what <= 4; what++) {
                is("walked(" + what + ") ahead of any", x.walked(what), -1);
            }
            walk(x, "a 0 0", -7, 1);
            is("ahead of any without a FAULT", x.walked(0), -1);
            walk(x, "a 0 0;s 1 1;", -1, 0);
            for (int far : FAR) {
                is("walked(" + far + ")", x.walked(far), -1);
            }
            is("walked(-1)", x.walked(-1), -1);
            is("walked(4)", x.walked(4), -1);
            is("walked(0)", x.walked(0), 0);
            is("walked(3)", x.walked(3), 12);
        });
    }

    private static void seenAndLay() {
        promise(26, "SEEN between two doors: how many TUFTS;", () -> {
            RugReader x = of(DOORS);
            is("seen(0, 1)", x.seen(0, 1), 2);
            is("seen(1, 0)", x.seen(1, 0), 2);
            is("seen(1, 2)", x.seen(1, 2), 2);
            RugReader y = of("rug 5 5;door 2 2;door 4 0;door 0 0;door 4 4;wall 1 0;wall 0 1;");
            is("a corner", y.seen(0, 1), 2);
            is("a door shut in", y.seen(0, 2), 0);
            is("shut in, back", y.seen(2, 3), 0);
            RugReader z = of("rug 12 12;door 5 5;door 8 8;");
            is("the most", z.seen(0, 1), 4);
            RugReader w = of("rug 12 2;door 0 0;door 11 1;door 2 0;");
            is("at the rug's edge", w.seen(0, 1), 2);
            is("two apart", w.seen(0, 2), 2);
        });
        promise(26, "NONE: they are beside each other, one alone, no such ones.", () -> {
            RugReader x = of("rug 3 3;door 1 1;door 1 0;door 2 1;door 1 2;door 0 1;door 0 0;");
            for (int i = 1; i <= 4; i++) {
                is("beside: seen(0, " + i + ")", x.seen(0, i), -1);
                is("beside: seen(" + i + ", 0)", x.seen(i, 0), -1);
            }
            is("aslant", x.seen(0, 5), 2);
            is("beside: seen(1, 5)", x.seen(1, 5), -1);
            for (int i = 0; i < 6; i++) {
                is("one alone", x.seen(i, i), -1);
            }
            for (int far : FAR) {
                is("seen(" + far + ", 0)", x.seen(far, 0), -1);
                is("seen(0, " + far + ")", x.seen(0, far), -1);
            }
            is("seen(-1, 0)", x.seen(-1, 0), -1);
            is("seen(0, -1)", x.seen(0, -1), -1);
            is("seen(6, 0)", x.seen(6, 0), -1);
            is("seen(0, 6)", x.seen(0, 6), -1);
            // X 11 of a row and X 0 of the next one have numbers beside each other, but are not.
            RugReader y = of("rug 12 2;door 11 0;door 0 1;");
            is("not beside", y.seen(0, 1), 2);
            RugReader z = of("rug 3 2;wall 0 0;door 0 0;door 1 0;");
            is("beside, one in a wall", z.seen(0, 1), -1);
            is("of an empty HOUSE", new RugReader().seen(0, 1), -1);
        });
        promise(27, "The i-th TUFT of the latest seen() that was not NONE;", () -> {
            RugReader x = of(DOORS);
            x.seen(0, 1);
            is("lay(0)", x.lay(0), 0);
            is("lay(1)", x.lay(1), 24);
            is("beside", x.seen(0, 2), -1);
            is("one alone", x.seen(0, 0), -1);
            is("no such one", x.seen(0, 3), -1);
            is("lay(0) yet", x.lay(0), 0);
            is("lay(1) yet", x.lay(1), 24);
            x.seen(1, 2);
            is("lay(0)", x.lay(0), 1);
            is("lay(1)", x.lay(1), 12);
            RugReader y = of("rug 7 7;door 3 3;door 5 5;");
            y.seen(0, 1);
            int[] row = {27, 38, 40, 51};
            for (int i = 0; i < row.length; i++) {
                is("lay(" + i + ")", y.lay(i), row[i]);
            }
        });
        promise(27, "NONE: none such, or ahead of any.", () -> {
            RugReader x = of(DOORS + "wall 1 0;wall 1 2;");
            is("ahead of any", x.lay(0), -1);
            is("ahead of any", x.lay(-1), -1);
            x.seen(0, 2);
            is("ahead of any that was not NONE", x.lay(0), -1);
            is("no way on", x.seen(0, 1), 0);
            is("none to lay", x.lay(0), -1);
            RugReader y = of(DOORS);
            y.seen(0, 1);
            is("lay(1)", y.lay(1), 24);
            is("lay(2)", y.lay(2), -1);
            is("lay(-1)", y.lay(-1), -1);
            for (int far : FAR) {
                is("lay(" + far + ")", y.lay(far), -1);
            }
            // What was laid ahead of one of 0 TUFTS is laid no more.
            tell(y, DOORS + "wall 1 0;wall 1 2;");
            y.house();
            y.seen(0, 1);
            is("none to lay", y.lay(0), -1);
            RugReader z = of("rug 7 7;door 3 3;door 5 5;");
            z.seen(0, 1);
            is("a fifth", z.lay(4), -1);
        });
    }

    private static void ways() {
        promise(28, "The TUFT over which most WAYS go (of like ones the first by number);", () -> {
            RugReader x = of("rug 4 4;way p 0 1 e 1 w 1 e 1;way q 3 1 w 3;way r 3 1;way t 3 3;way u 3 3;way v 3 3;");
            is("three WAYS at the last TUFT", x.spot(), 39);
            RugReader y = of("rug 4 4;way p 0 1 e 1 w 1 e 1;way q 3 1 w 3;way r 3 1;way t 3 3;way u 3 3;");
            is("of like ones the first", y.spot(), 12);
            is("one WAY", of("rug 4 4;way p 3 3;").spot(), 39);
            is("one WAY: its least TUFT", of("rug 4 4;way p 3 3 w 1 n 2;").spot(), 14);
            is("a WAY counts once", of("rug 4 4;way p 0 0 e 1 w 1 e 1;way q 3 3;way r 3 3;").spot(), 39);
            is("on a whole rug", of("rug 12 12;way p 11 11;").spot(), 143);
            is("at the first TUFT", of("rug 12 12;way p 0 0;way q 11 11;").spot(), 0);
        });
        promise(28, "NONE: no WAYS.", () -> {
            is("without WAYS", of("rug 4 4;person a 1 1 1;").spot(), -1);
            is("of an empty HOUSE", new RugReader().spot(), -1);
        });
        promise(29, "WAYS that go over a TUFT, as bits;", () -> {
            RugReader x = of("rug 12 12;way p 0 0 e 2;way q 1 0 s 1;way r 1 0 e 1 w 1;way t 5 5;way u 11 11;way v 1 0;");
            int[][] due = {{0, 1}, {1, 1 + 2 + 4 + 32}, {2, 1 + 4}, {13, 2}, {65, 8}, {143, 16}, {3, 0}, {12, 0}};
            for (int[] d : due) {
                is("ways(" + d[0] + ")", x.ways(d[0]), d[1]);
            }
            RugReader y = of("rug 2 2;way p 0 0;way q 0 0;way r 0 0;way t 0 0;way u 0 0;way v 0 0;");
            is("all six", y.ways(0), 63);
            is("none", y.ways(1), 0);
            is("without WAYS", of("rug 2 2;").ways(0), 0);
        });
        promise(29, "NONE: no such one.", () -> {
            RugReader x = of(HOUSE);
            for (int far : FAR) {
                is("ways(" + far + ")", x.ways(far), -1);
            }
            for (int at : new int[] {-1, 5, 36, 143}) {
                is("ways(" + at + ")", x.ways(at), -1);
            }
            is("ways(28)", x.ways(28), 0);
            is("of an empty HOUSE", new RugReader().ways(0), -1);
        });
        promise(30, "TUFTS that two WAYS have both: how many;", () -> {
            RugReader x = of("rug 4 4;way p 0 1 e 1 w 1 e 1;way q 3 1 w 3;way r 3 1;way t 3 3 n 3 w 3;way u 3 3 n 3 w 3;");
            is("both(0, 1)", x.both(0, 1), 2);
            is("both(1, 0)", x.both(1, 0), 2);
            is("one WAY", x.both(0, 0), 2);
            is("none", x.both(0, 2), 0);
            is("all", x.both(3, 4), 7);
            is("one", x.both(1, 2), 1);
            is("one at a crossing", x.both(3, 1), 1);
        });
        promise(30, "NONE: no such ones.", () -> {
            RugReader x = of(HOUSE);
            for (int far : FAR) {
                is("both(" + far + ", 0)", x.both(far, 0), -1);
                is("both(0, " + far + ")", x.both(0, far), -1);
            }
            for (int far : new int[] {-1, 2, 31, 32, 33}) {
                is("both(" + far + ", 0)", x.both(far, 0), -1);
                is("both(0, " + far + ")", x.both(0, far), -1);
            }
            is("of an empty HOUSE", new RugReader().both(0, 0), -1);
        });
    }

    private static void years() {
        promise(31, "A house DRAWN by a seed: n (1 to 60) DAYS of m (1 to 9) walks: the DAY then;", () -> {
            RugReader x = of(HOUSE);
            is("years(1, 1, 0)", x.years(1, 1, 0), 1);
            is("walks", x.person(0, 5) + x.person(1, 5), 1);
            is("years(60, 9, MIN)", x.years(60, 9, MIN), 61);
            is("walks", x.person(0, 5) + x.person(1, 5), 541);
            is("years(60, 1, MAX)", x.years(60, 1, MAX), 121);
            is("years(1, 9, -1)", x.years(1, 9, -1), 122);
            is("walks", x.person(0, 5) + x.person(1, 5), 541 + 60 + 9);
            is("undo()", x.undo(), 3);
            is("the DAY then", x.count(7), 121);
        });
        promise(31, "NONE: not as told,", () -> {
            RugReader x = of(HOUSE);
            int[][] wrong = {{0, 1}, {-1, 1}, {61, 1}, {62, 9}, {MIN, 1}, {MAX, 1}, {1, 0}, {1, -1}, {1, 10}, {60, 10},
                {1, MIN}, {1, MAX}, {0, 0}};
            for (int[] w : wrong) {
                is("years(" + w[0] + ", " + w[1] + ", 1)", x.years(w[0], w[1], 1), -1);
            }
            is("the DAY", x.count(7), 0);
            is("walks", x.person(0, 5) + x.person(1, 5), 0);
            is("no acts", x.undo(), -1);
        });
        promise(31, "no people,", () -> {
            is("years(1, 1, 1)", of("rug 2 2;way p 0 0;").years(1, 1, 1), -1);
            is("years(1, 1, 1)", of("rug 2 2;way p 0 0;person a 1 1 1;").years(1, 1, 1), 1);
        });
        promise(31, "no WAYS,", () -> {
            is("years(1, 1, 1)", of("rug 2 2;person a 1 1 1;").years(1, 1, 1), -1);
            is("years(1, 1, 1)", of("person a 1 1 1;").years(1, 1, 1), -1);
            is("years(1, 1, 1)", new RugReader().years(1, 1, 1), -1);
        });
        promise(31, "the DAY would be above 999.", () -> {
            RugReader x = of(HOUSE);
            for (int i = 1; i <= 16; i++) {
                is("years(60, 1, " + i + ")", x.years(60, 1, i), 60 * i);
            }
            is("to 1000", x.years(40, 1, 1), -1);
            is("to 1020", x.years(60, 1, 1), -1);
            is("the DAY", x.count(7), 960);
            is("to 998", x.years(38, 1, 1), 998);
            is("to 1000", x.years(2, 1, 1), -1);
            is("to 999", x.years(1, 1, 1), 999);
            is("to 1000", x.years(1, 1, 1), -1);
            is("undo()", x.undo(), 5);
            is("the DAY", x.count(7), 998);
        });
    }

    private static void rarest() {
        promise(32, "Who walked least so far (of like ones the first);", () -> {
            RugReader x = of("rug 2 2;fade 1;person a 1 1 1;person b 2 2 1;person c 1 1 1;person d 1 1 1;person f 1 1 1;"
                    + "person g 1 1 1;way p 0 0 e 1;way q 1 1;");
            is("nobody yet: the first", x.rarest(), 0);
            for (int p = 0; p < 5; p++) {
                x.goes(p, 0, 0);
                is("the first that did not", x.rarest(), p + 1);
            }
            x.goes(5, 1, 0);
            is("all once: the first", x.rarest(), 0);
            x.goes(0, 1, 0);
            is("so far", x.rarest(), 1);
            x.days(1);
            x.goes(1, 0, 0);
            x.beat(0, 0);
            is("DAYS and beating are no matter", x.rarest(), 2);
            x.undo();
            x.undo();
            is("undone", x.rarest(), 1);
            is("one alone", of("person a 1 1 1;").rarest(), 0);
        });
        promise(32, "NONE: nobody is told.", () -> {
            is("without people", of("rug 2 2;way p 0 0;").rarest(), -1);
            is("of an empty HOUSE", new RugReader().rarest(), -1);
        });
    }

    private static void sentence() {
        promise(33, "The tape is the SENTENCE now: how many ONES (each not, bracket and other one);", () -> {
            RugReader x = of("rug 2 2;person a 1 1 9;person b 2 2 9;way p 0 0;");
            sentence(x, "weight=1", 1, 0);
            saidNow(x, "'weight=1'", 1);
            sentence(x, "not weight=1", 2, 0);
            saidNow(x, "'not weight=1'", 2);
            sentence(x, "(weight=1)", 2, 0);
            sentence(x, "not(weight=1)", 3, 0);
            sentence(x, "trod p", 1, 0);
            sentence(x, "weight=1 or sole=1 and pace=1", 3, 0);
            sentence(x, "(not trod p or not(sole=1))and place=1", 7, 0);
            saidNow(x, "the latest one", 2);
            sentence(x, "pace<1" + " or pace<1".repeat(18) + " or sole=1", 20, 0);
            saidNow(x, "twenty ONES", 1);
            sentence(x, "sole=2" + " and sole=2".repeat(17), 18, 0);
            saidNow(x, "eighteen ONES", 2);
            // As often as one likes: nothing of SENTENCES that were is in a later one.
            for (int i = 0; i < 20; i++) {
                int sole = i % 3 == 0 ? 1 : 2;
                sentence(x, "sole=" + sole + (" and sole=" + sole).repeat(17), 18, 0);
                saidNow(x, "the latest one", sole);
            }
            is("no act", x.undo(), -1);
        });
        promise(33, "-1 less the place of a FAULT: it stays.", () -> {
            RugReader x = of("rug 2 2;person a 1 1 9;person b 2 2 9;way p 0 0;");
            sentenceFault(x, "^", 1);
            is("none is", x.said(-1), -1);
            sentence(x, "weight=1", 1, 0);
            String[] bad = {"^", "weight=2 ^weight=2", "weight=2 or not weight=2 and^", "weight=2^)", "sole>0 or trod ^z",
                "^?", "sole>0 or ((((((((^sole>0"};
            int[] kinds = {1, 1, 1, 1, 3, 1, 4};
            for (int i = 0; i < bad.length; i++) {
                sentenceFault(x, bad[i], kinds[i]);
                saidNow(x, "the one that stays", 1);
            }
            sentenceFault(x, "sole>0" + wide(194) + "^ ", 1);
            saidNow(x, "the one that stays", 1);
        });
    }

    private static void said() {
        promise(34, "People of whom it may be said: how many (k NONE), or the k-th.", () -> {
            RugReader x = of("person a 1 1 1;person b 2 1 1;person c 1 1 1;person d 2 1 1;person f 1 1 1;person g 2 1 1;");
            sentence(x, "weight=2", 1, 0);
            is("said(-1)", x.said(-1), 3);
            int[] due = {1, 3, 5};
            for (int k = 0; k < due.length; k++) {
                is("said(" + k + ")", x.said(k), due[k]);
            }
            sentence(x, "weight>0", 1, 0);
            is("all", x.said(-1), 6);
            is("said(5)", x.said(5), 5);
            sentence(x, "weight>2", 1, 0);
            is("nobody", x.said(-1), 0);
            // It is said of what is so now.
            RugReader y = of(HOUSE);
            sentence(y, "prints>4", 1, 0);
            is("said(-1)", y.said(-1), 0);
            y.goes(1, 0, 1);
            is("said(-1)", y.said(-1), 1);
            is("said(0)", y.said(0), 1);
            y.undo();
            is("said(-1)", y.said(-1), 0);
        });
        promise(34, "NONE: there is no SENTENCE, none such.", () -> {
            RugReader x = of("person a 1 1 1;person b 2 1 1;");
            for (int k = -2; k <= 2; k++) {
                is("said(" + k + ") without a SENTENCE", x.said(k), -1);
            }
            sentence(x, "weight>0", 1, 0);
            is("said(2)", x.said(2), -1);
            is("said(-2)", x.said(-2), -1);
            for (int far : FAR) {
                is("said(" + far + ")", x.said(far), -1);
            }
            sentence(x, "weight>9", 1, 0);
            is("said(0) of nobody", x.said(0), -1);
            tell(x, "person a 1 1 1;");
            x.house();
            is("of a new HOUSE", x.said(-1), -1);
        });
    }

    private static void images() {
        String house = "rug 2 2;person a 3 1 9;person b 5 2 9;way p 0 0 e 1;way q 1 1 n 1;fade 4;door 0 0;wall 0 1;";
        promise(35, "HOUSE, rug, DAY and SENTENCE are kept in place k (0, 1): true;", () -> {
            RugReader x = of(house);
            x.goes(0, 0, 1);
            x.days(2);
            x.beat(0, 0);
            sentence(x, "trod p", 1, 0);
            String was = state(x);
            is("image(0)", x.image(0), true);
            same("image() changes nothing", state(x), was);
            is("no act, and all can be undone", x.undo(), 2);
            tell(x, "rug 3 3;");
            x.house();
            is("image(1)", x.image(1), true);
            is("restore(0)", x.restore(0), true);
            same("as kept", state(x), was);
            x.restore(1);
            is("the other place", x.count(0), 3);
            x.restore(0);
            x.days(1);
            is("image(0) over the one kept", x.image(0), true);
            x.days(1);
            x.restore(0);
            is("the DAY of the later one", x.count(7), 3);
            RugReader y = new RugReader();
            is("an empty HOUSE", y.image(1), true);
            tell(y, house);
            y.house();
            is("restore(1)", y.restore(1), true);
            is("an empty HOUSE", y.count(0), 0);
        });
        promise(35, "HOUSE, rug, DAY and SENTENCE are kept", () -> {
            RugReader x = of(BoundaryOfTexts.full().replace("fade 9;", "fade 8;").replace("way pf 4 11;",
                    "way pf 4 11 e 7 n 6 w 10 s 4;"));
            x.years(11, 9, 5);
            x.beat(142, 143);
            sentence(x, "(weight<5 or weight>5)and not sole=4 and trod pf", 6, 0);
            x.image(1);
            for (int i = 0; i < 2; i++) {
                StringBuilder other = new StringBuilder("rug 12 12;person z 9 9 9;wall 10 0;wall 10 1;");
                for (String name : new String[] {"p", "q", "r", "t", "u", "v"}) {
                    other.append("way ").append(name).append(" 11 1 s 10 w 11 n 9 e 8;");
                }
                tell(x, other + "door 8 5;door 3 3;door 2 2;");
                is("another HOUSE", x.house(), 13);
                sentence(x, "(weight>5 and weight<5)or not sole>4 or trod q", 6, 0);
            }
            RugReader y = of(BoundaryOfTexts.full().replace("fade 9;", "fade 8;").replace("way pf 4 11;",
                    "way pf 4 11 e 7 n 6 w 10 s 4;"));
            y.years(11, 9, 5);
            y.beat(142, 143);
            sentence(y, "(weight<5 or weight>5)and not sole=4 and trod pf", 6, 0);
            is("restore(1)", x.restore(1), true);
            sameHouse(x, y);
            is("seen(0, 7)", x.seen(0, 7), y.seen(0, 7));
            is("it can be seen", y.lay(0) >= 0, true);
            is("lay(0)", x.lay(0), y.lay(0));
        });
        promise(35, "false: no such one.", () -> {
            RugReader x = of(house);
            x.image(0);
            x.days(1);
            for (int k : new int[] {-1, 2, -2, 3, MIN, MAX}) {
                is("image(" + k + ")", x.image(k), false);
            }
            is("restore(1): nothing was kept", x.restore(1), false);
            is("restore(0)", x.restore(0), true);
            is("as kept", x.count(7), 0);
        });
        promise(36, "They are as kept in place k (the tape, and what other calls told last, stays; nothing can be "
                + "undone): true;", () -> {
            RugReader x = of(house);
            x.goes(0, 0, 1);
            x.days(2);
            x.beat(0, 0);
            sentence(x, "trod p", 1, 0);
            x.image(0);
            tell(x, "rug 3 3;fade 1;person c 1 1 9;way r 0 0 e 2;door 0 0;door 2 2;");
            x.house();
            x.goes(0, 0, 0);
            readings(x, 1, 2, 0, 1, 255);
            is("seen(0, 1)", x.seen(0, 1), 2);
            walk(x, "c 0 0;e 2 7;", -1, 0);
            sentence(x, "weight^", -7, 1);
            x.feed(1, 2, 3, 4, 5);
            is("restore(0)", x.restore(0), true);
            is("nothing can be undone", x.undo(), -1);
            is("the tape stays", x.count(8), 20);
            is("fault() stays", x.fault(), 1);
            walked(x, 0, 2, 7, 2);
            is("lay(0) stays", x.lay(0), 1);
            is("lay(1) stays", x.lay(1), 12);
            is("read(0, 0) stays", x.read(0, 0), 0);
            is("fewest() stays", x.fewest(), 1);
            int[] counts = {2, 2, 2, 2, 1, 1, 4, 2, 20, -1};
            for (int what = 0; what < counts.length; what++) {
                is("count(" + what + ")", x.count(what), counts[what]);
            }
            lies(x, 0, 0, 0, -1, -1, -1, -1, 0, 1);
            lies(x, 1, 6, 1, 0, 2, 1, 2, 0, 0);
            lies(x, 12, 0, 0, -1, -1, -1, -1, 1, 0);
            is("missing(0)", x.missing(0), 6);
            is("walks so far", x.person(0, 5), 1);
            saidNow(x, "the SENTENCE as kept", 1);
            x.goes(1, 1, 1);
            x.days(5);
            x.end(0);
            sentence(x, "weight=5", 1, 0);
            is("restore(0) again", x.restore(0), true);
            is("the DAY as kept", x.count(7), 2);
            is("the rug as kept", x.tuft(13, 1), 0);
            is("walks as kept", x.person(1, 5), 0);
            saidNow(x, "the SENTENCE as kept", 1);
            sentence(x, "trod q", 1, 0);
            walk(x, "b 1 1;n 1 1;", -1, 0);
        });
        promise(36, "false: no such one, or nothing is kept there.", () -> {
            RugReader x = of(house);
            is("nothing is kept", x.restore(0), false);
            is("nothing is kept", x.restore(1), false);
            x.image(1);
            x.goes(0, 0, 0);
            is("nothing is kept in place 0", x.restore(0), false);
            for (int k : new int[] {-1, 2, -2, 3, MIN, MAX}) {
                is("restore(" + k + ")", x.restore(k), false);
            }
            is("it is as it was", x.tuft(0, 1), 1);
            is("it can be undone", x.undo(), 0);
            is("restore(1)", x.restore(1), true);
        });
    }

    /** The WAYS, walls, doors, people of two HOUSES, and what lies along their fifth WAY. */
    private static void sameHouse(RugReader x, RugReader y) {
        for (int what = 0; what < 9; what++) {
            is("count(" + what + ")", x.count(what), y.count(what));
        }
        for (int way = 0; way < 6; way++) {
            is("way(" + way + ", 0)", x.way(way, 0), y.way(way, 0));
        }
        for (int i = 0; i < 28; i++) {
            int at = y.way(4, i);
            is("way(4, " + i + ")", x.way(4, i), at);
            for (int what = 0; what < 8; what += 2) {
                is("tuft(" + at + ", " + what + ")", x.tuft(at, what), y.tuft(at, what));
            }
        }
        for (int at : new int[] {0, 1, 9, 10, 12, 33, 34, 60, 67, 68, 142}) {
            is("a wall on " + at, x.tuft(at, 6), y.tuft(at, 6));
            is("a door on " + at, x.tuft(at, 7), y.tuft(at, 7));
            is("missing(" + at + ")", x.missing(at), y.missing(at));
        }
        for (int p = 0; p < 6; p++) {
            for (int what = 0; what < 6; what++) {
                is("person(" + p + ", " + what + ")", x.person(p, what), y.person(p, what));
            }
        }
        for (int k = -1; k < 7; k++) {
            is("said(" + k + ")", x.said(k), y.said(k));
        }
    }

    private static void count() {
        promise(37, "0 W, 1 H, 2 people, 3 WAYS, 4 walls, 5 doors, 6 'fade', 7 the DAY, 8 bytes of the tape.", () -> {
            RugReader x = of("rug 12 7;person a 1 1 1;person b 1 1 1;person c 1 1 1;way p 0 0;way q 0 0;wall 1 1;"
                    + "wall 1 2;wall 1 3;wall 1 4;door 5 5;fade 8;");
            x.days(17);
            tell(x, "rug 3 3;fade 1;");
            int[] due = {12, 7, 3, 2, 4, 1, 8, 17, 15};
            for (int what = 0; what < due.length; what++) {
                is("count(" + what + ")", x.count(what), due[what]);
            }
            x.house();
            int[] then = {3, 3, 0, 0, 0, 0, 1, 0, 0};
            for (int what = 0; what < then.length; what++) {
                is("count(" + what + ")", x.count(what), then[what]);
            }
        });
        promise(37, "NONE for another what.", () -> {
            RugReader x = of(HOUSE);
            for (int far : FAR) {
                is("count(" + far + ")", x.count(far), -1);
            }
            is("count(-1)", x.count(-1), -1);
            is("count(9)", x.count(9), -1);
            is("count(10)", x.count(10), -1);
        });
    }
}
