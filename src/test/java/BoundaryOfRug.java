/** What 'Terms' says of treads, days, beating, readings, crossing, walks told, rugs laid, drawing, a new HOUSE. */
final class BoundaryOfRug extends Boundary {
    private static final String TINY = "rug 2 2;person a 3 1 9;person b 5 2 9;way p 0 0 e 1;way q 1 1 n 1;fade 4;";

    static void all() {
        treads();
        fading();
        walksAndDays();
        beating();
        readingsOfTufts();
        readingsInOrder();
        signs();
        wrongWalks();
        turns();
        seen();
        drawn();
        drawnDays();
        newHouse();
        thrown();
    }

    private static void treads() {
        terms("7, 9", "2. A TREAD is a person's on a TUFT, with a WEIGHT, in some one's SOLE,", () -> {
            RugReader x = of(HOUSE);
            x.goes(0, 0, 1);
            lies(x, 0, 12, 1, 0, 2);
            x.goes(1, 1, 0);
            lies(x, 24, 20, 1, 1, 1);
            lies(x, 0, 32, 2, 1, 1);
            RugReader y = of("rug 2 2;person a 9 0 1;person b 1 9 1;way p 0 0;way q 1 1;");
            y.goes(0, 0, 0);
            lies(y, 0, 81, 1, 0, 0);
            y.goes(1, 1, 1);
            lies(y, 13, 9, 1, 1, 9);
        });
        terms("7", "by the DIR in which it goes on (at a walk's end: in which it came; of one TUFT alone: 0;"
                + " n 0, e 1, s 2, w 3).", () -> {
            RugReader x = of("rug 3 3;person a 1 1 1;way p 1 1 n 1 e 1 s 2 w 2 n 1;way q 2 2;way r 0 0;");
            x.goes(0, 0, 0);
            int[][] due = {{13, 0}, {1, 1}, {2, 2}, {14, 2}, {26, 3}, {25, 3}, {24, 0}, {12, 0}};
            for (int[] d : due) {
                is("DIR on " + d[0], x.tuft(d[0], 4), d[1]);
            }
            x.goes(0, 1, 0);
            is("one TUFT alone", x.tuft(26, 4), 0);
            x.goes(0, 2, 0);
            is("one TUFT alone", x.tuft(0, 4), 0);
            RugReader y = of("rug 3 3;person a 1 1 1;way p 1 1 n 1;way q 1 1 e 1;way r 1 1 s 1;way t 1 1 w 1;"
                    + "way u 0 0 e 1 w 1;");
            int[] ends = {1, 14, 25, 12};
            for (int way = 0; way < 4; way++) {
                y.goes(0, way, 0);
                is("DIR on its first TUFT", y.tuft(13, 4), way);
                is("DIR at its end", y.tuft(ends[way], 4), way);
            }
            y.goes(0, 4, 0);
            is("DIR at the end is of the last STEP", y.tuft(0, 4), 3);
            is("DIR as it goes back", y.tuft(1, 4), 3);
        });
    }

    private static void fading() {
        terms("6, 7, 10", "It lies 'fade' DAYS: of an age of a DAYS its depth is WEIGHT times ('fade' less a).", () -> {
            for (int fade = 1; fade <= 9; fade++) {
                RugReader x = of("rug 2 2;person a 7 3 1;way p 0 0;fade " + fade + ";");
                x.goes(0, 0, 0);
                for (int a = 0; a < fade; a++) {
                    lies(x, 0, 7 * (fade - a), 1, 0, 3, 0, a);
                    is("treads that lie yet", x.person(0, 3), 1);
                    x.days(1);
                }
                nothingLies(x, 0);
                is("treads that lie yet", x.person(0, 3), 0);
            }
            RugReader y = of("rug 2 2;person a 7 3 1;way p 0 0;");
            y.goes(0, 0, 0);
            y.days(8);
            lies(y, 0, 7, 1, 0, 3, 0, 8);
            y.days(1);
            nothingLies(y, 0);
            y.goes(0, 0, 0);
            y.days(20);
            nothingLies(y, 0);
        });
        terms("7, 16", "DEPTH of a TUFT: of all TREADS on it together.", () -> {
            RugReader x = of(HOUSE);
            is("of none", x.tuft(0, 0), 0);
            x.goes(0, 0, 0);
            x.goes(1, 0, 1);
            x.days(1);
            x.goes(0, 1, 1);
            lies(x, 0, 9 + 15 + 12, 3);
            lies(x, 2, 9 + 15, 2);
            is("deepest", x.deepest(), 0);
            x.days(2);
            lies(x, 0, 3 + 5 + 6, 3);
            x.days(1);
            lies(x, 0, 3, 1);
            RugReader y = of("rug 2 2;person a 9 3 1;way p 0 0" + " e 1 w 1".repeat(20) + ";");
            for (int i = 0; i < 20; i++) {
                y.goes(0, 0, 0);
            }
            lies(y, 0, 420 * 81, 420);
            lies(y, 1, 400 * 81, 400);
        });
        terms("7, 15", "DEPTH of a TUFT: of all TREADS on it together. ON TOP is the latest one.", () -> {
            RugReader x = of("rug 3 3;fade 3;person a 3 1 9;person b 5 2 9;way p 0 0 e 2;way q 2 0 w 2;");
            x.goes(0, 0, 0);
            x.goes(1, 1, 1);
            lies(x, 1, 24, 2, 1, 2, 3, 0);
            x.goes(0, 0, 1);
            lies(x, 1, 33, 3, 0, 2, 1, 0);
            x.days(1);
            lies(x, 1, 22, 3, 0, 2, 1, 1);
            x.goes(1, 1, 0);
            lies(x, 1, 37, 4, 1, 1, 3, 0);
            is("TUFTS with SOLE 1 ON TOP", x.soles(1), 3);
            is("TUFTS with SOLE 2 ON TOP", x.soles(2), 0);
            x.days(2);
            lies(x, 1, 5, 1, 1, 1, 3, 2);
        });
    }

    private static void walksAndDays() {
        terms("6, 9", "A WALK along a WAY, in soles of one's own or another one's: a TREAD on each TUFT of it, "
                + "one after another.", () -> {
            RugReader x = of("rug 12 12;person a 1 1 1;person b 2 2 1;way p 0 0 e 11 s 11 w 11 n 7;way q 3 3 e 1 w 1;"
                    + "way r 5 5;");
            is("41 TUFTS", x.goes(0, 0, 1), 41);
            is("their treads", x.person(0, 3), 41);
            is("their TUFTS", x.person(0, 4), 41);
            is("their SOLE", x.soles(2), 41);
            for (int i = 0; i < 41; i++) {
                is("treads on TUFT " + i, x.tuft(x.way(0, i), 1), 1);
            }
            is("a TUFT twice", x.goes(1, 1, 1), 3);
            is("a TUFT twice", x.tuft(39, 1), 2);
            is("treads", x.person(1, 3), 3);
            is("TUFTS", x.person(1, 4), 2);
            is("one TUFT", x.goes(1, 2, 1), 1);
            lies(x, 65, 18, 1, 1, 2, 0, 0);
        });
        terms("7, 10", "A DAY: all are a DAY older; those as old as 'fade' are gone.", () -> {
            RugReader x = of("rug 2 2;fade 3;person a 3 1 9;person b 5 2 9;way p 0 0;way q 0 0 e 1;");
            x.goes(0, 0, 0);
            x.days(1);
            x.goes(1, 1, 1);
            x.days(1);
            lies(x, 0, 3 + 10, 2, 1, 2, 1, 1);
            x.days(1);
            lies(x, 0, 5, 1, 1, 2, 1, 2);
            x.days(1);
            nothingLies(x, 0);
            nothingLies(x, 1);
            // 'fade' of nine days over more than nine: the tenth DAY's treads are not the first's.
            RugReader y = of("rug 2 2;person a 1 1 9;way p 0 0;");
            for (int day = 1; day <= 30; day++) {
                y.goes(0, 0, 0);
                y.days(1);
                int lie = Math.min(day, 8);
                lies(y, 0, lie * 9 - lie * (lie + 1) / 2, lie, 0, 1, 0, 1);
            }
        });
    }

    private static void beating() {
        terms("7, 11", "BEATEN: on a part of the rug nothing lies any more.", () -> {
            RugReader x = of("rug 3 3;person a 1 1 9;way p 0 0 e 2 s 2 w 2 n 1 e 1;");
            x.goes(0, 0, 0);
            is("one TUFT", x.beat(13, 13), 1);
            nothingLies(x, 13);
            lies(x, 12, 9, 1, 0, 1, 1, 0);
            is("two by two", x.beat(0, 13), 3);
            nothingLies(x, 0);
            nothingLies(x, 1);
            nothingLies(x, 12);
            lies(x, 2, 9, 1);
            lies(x, 24, 9, 1);
            is("all of it", x.beat(26, 0), 5);
            for (int at : new int[] {0, 1, 2, 12, 13, 14, 24, 25, 26}) {
                nothingLies(x, at);
            }
            is("treads that lie", x.person(0, 3), 0);
            is("nothing lies there", x.beat(0, 26), 0);
            x.goes(0, 0, 0);
            lies(x, 0, 9, 1, 0, 1, 1, 0);
        });
        terms("11, 13, 14", "HIDDEN: TUFTS whose DEPTH is not what it were if nothing had been BEATEN.", () -> {
            RugReader x = of("rug 3 3;fade 2;person a 1 1 9;person b 2 1 9;way p 0 0 e 2;");
            x.beat(0, 26);
            is("nothing was there", x.hidden(-1), 0);
            x.goes(0, 0, 0);
            x.days(1);
            x.goes(1, 0, 1);
            is("nothing beaten", x.hidden(-1), 0);
            x.beat(1, 25);
            is("one was", x.hidden(-1), 1);
            is("which", x.hidden(0), 1);
            is("what it were", x.missing(1), 1 + 4);
            x.goes(0, 0, 0);
            x.beat(1, 1);
            is("again", x.missing(1), 1 + 4 + 2);
            x.days(1);
            is("the older one would be gone", x.missing(1), 2 + 1);
            is("HIDDEN yet", x.hidden(-1), 1);
            x.days(1);
            is("all would be gone", x.missing(1), 0);
            is("HIDDEN no more", x.hidden(-1), 0);
        });
    }

    private static void readingsOfTufts() {
        terms("19", "3. A READING of a clean rug by told TUFTS with DEPTH (and SOLE ON TOP, or any):", () -> {
            RugReader x = of(HOUSE);
            readings(x, 2, 0, 0, 12, 255);
            readings(x, 2, 0, 0, 12, 1);
            readings(x, 0, 0, 0, 12, 2);
            readings(x, 0, 0, 0, 13, 255);
            readings(x, 0, 0, 0, 11, 255);
            readings(x, 1, 0, 0, 0, 255);
            readings(x, 0, 0, 0, 0, 1);
            readings(x, 0, 0, 0, 0, 0);
            x.goes(0, 0, 0);
            readings(x, 2, 0, 0, 12, 255);
            // 6 walks of 64 are 384, which is no 128: two walks are.
            RugReader y = of("rug 2 2;fade 8;person a 8 0 1;way p 0 0;way q 0 0;way r 0 0;way t 0 0;way u 0 0;"
                    + "way v 0 0;");
            readings(y, 15, 0, 0, 128, 0);
            readings(y, 15, 0, 0, 128, 255);
            readings(y, 20, 0, 0, 192, 255);
            readings(y, 0, 0, 0, 255, 255);
            RugReader z = of("rug 2 2;fade 5;person a 9 0 1;person b 6 9 1;way p 0 0;way q 0 0;way r 0 0;way t 0 0;"
                    + "way u 0 0;way v 0 0;");
            readings(z, 6, 0, 0, 255, 255);
            readings(z, 1, 0, 0, 255, 9);
            readings(z, 5, 0, 0, 255, 0);
        });
        terms("19, 20", "WAY by WAY (as they are numbered) somebody walked it once today in own soles, or nobody, "
                + "so that all told TUFTS are so.", () -> {
            RugReader x = of("rug 3 3;fade 1;person a 1 1 9;person b 1 2 9;way p 0 0 e 1;way q 1 0 e 1;");
            // ON TOP of TUFT 1 is who walked WAY q, as it is numbered behind p.
            readings(x, 2, 1, 0, 2, 2);
            is("read(1, 1)", x.read(1, 1), 1);
            is("read(0, 1)", x.read(0, 1), -2);
            readings(x, 1, 0, 0, 1, 1, 1, 0, 2, 2);
            is("read(0, 1)", x.read(0, 1), 0);
            readings(x, 0, 0, 0, 1, 1, 1, 0, 2, 255, 2, 0, 0, 255);
            readings(x, 4, 1, 0, 1, 255);
            readings(x, 0, 1, 0, 3, 255);
            // All that anybody can have done: 6 people or nobody along 6 WAYS.
            RugReader y = of("rug 2 2;person a 1 1 1;person b 1 1 1;person c 1 1 1;person d 1 1 1;person f 1 1 1;"
                    + "person g 1 1 1;way p 0 0;way q 0 0;way r 0 0;way t 0 0;way u 0 0;way v 0 0;");
            readings(y, 117649, 1, 1, 0, 255);
            readings(y, 46656, 0, 0, 54, 1);
            readings(y, 1, 0, 0, 0, 255);
            readings(y, 0, 0, 0, 63, 255);
            // Who walked over other TUFTS since is not ON TOP of this one.
            RugReader z = of("rug 3 2;fade 1;person a 1 1 9;person b 2 2 9;way p 0 0;way q 1 0;way r 0 0;");
            readings(z, 2, 0, 0, 1, 1, 1, 0, 2, 2);
            readings(z, 0, 0, 0, 1, 2, 1, 0, 2, 2);
            // Readings of a HOUSE that was are none of this one's.
            readings(z, 6, 0, 0, 1, 1);
            tell(z, "rug 3 2;fade 1;person a 1 1 9;person b 2 2 9;way p 0 0;");
            is("house()", z.house(), 5);
            readings(z, 0, 0, 0, 1, 2);
            readings(z, 1, 0, 0, 1, 1);
            readings(z, 1, 0, 0, 0, 255);
            is("once: twice over a TUFT is one walk",
                    readingsOnce("rug 2 2;fade 2;person a 1 1 1;way p 0 0 e 1 w 1;", 0, 0, 4, 1), 1);
            is("once: not twice", readingsOnce("rug 2 2;fade 2;person a 1 1 1;way p 0 0 e 1 w 1;", 1, 0, 4, 1), 0);
        });
    }

    private static int readingsOnce(String house, int... told) {
        RugReader x = of(house);
        tell(x, bytes(told));
        return x.readings();
    }

    private static void readingsInOrder() {
        terms("20", "In order: WAY by WAY nobody ahead of all, then by numbers.", () -> {
            RugReader x = of("rug 2 2;fade 1;person a 2 1 9;person b 1 2 9;person c 1 3 9;way p 0 0;way q 0 0;"
                    + "way r 0 0;");
            readings(x, 1, 0, 0, 0, 255);
            first(x, -1, -1, -1);
            // 1: nobody, nobody, b; 2: nobody, nobody, a; 3: nobody, a, b; 4: nobody, a, a.
            readings(x, 6, 0, 0, 1, 255);
            first(x, -1, -1, 1);
            readings(x, 15, 0, 0, 2, 255);
            first(x, -1, -1, 0);
            readings(x, 20, 0, 0, 3, 255);
            first(x, -1, 0, 1);
            readings(x, 15, 0, 0, 4, 255);
            first(x, -1, 0, 0);
            readings(x, 6, 0, 0, 5, 255);
            first(x, 0, 0, 1);
            readings(x, 1, 0, 0, 6, 255);
            first(x, 0, 0, 0);
            readings(x, 4, 0, 0, 4, 2);
            first(x, 0, 1, 1);
        });
    }

    private static void first(RugReader x, int... due) {
        for (int way = 0; way < due.length; way++) {
            is("read(" + way + ", 0)", x.read(way, 0), due[way]);
        }
    }

    private static void signs() {
        terms("22, 23", "SIGN of a person crossing from TUFT to TUFT, STEP by STEP, not through walls:", () -> {
            RugReader x = of("rug 5 3;wall 2 0;wall 2 1;person a 1 1 9;");
            is("round the walls", x.steps(0, 0, 4), 8);
            is("round the walls", x.sign(0, 0, 4), 9);
            is("not aslant", x.steps(0, 0, 13), 2);
            RugReader y = of("rug 3 3;wall 1 0;wall 0 1;person a 1 1 9;");
            is("shut in a corner", y.sign(0, 0, 13), -1);
            is("shut in a corner", y.steps(0, 0, 13), -1);
            is("in the corner", y.steps(0, 0, 0), 0);
            is("all round the corner", y.steps(0, 2, 24), 4);
            // The rug has edges: no STEP leads from X 4 of one row to X 0 of another one.
            RugReader z = of("rug 12 2;person a 1 1 9;wall 0 0;wall 11 1;");
            is("from one end to the other", z.steps(0, 11, 12), 12);
            RugReader w = of("rug 12 12;person a 1 1 9;");
            is("over all of it", w.steps(0, 0, 143), 22);
            is("over all of it", w.steps(0, 143, 0), 22);
            is("over all of it", w.steps(0, 11, 132), 22);
        });
        terms("22, 23", "WEIGHT for each TUFT on which it goes (the first and last, too) where the SOLE ON TOP is not "
                + "its own: the least; of like ones the fewest STEPS.", () -> {
            RugReader x = of("rug 5 3;person a 3 1 9;person b 9 2 9;way p 0 0 s 2 e 4 n 2;way q 1 0;way r 0 0;");
            is("first and last of a clean rug", x.sign(0, 0, 1), 6);
            is("the first is the last", x.sign(0, 0, 0), 3);
            is("the first is the last", x.steps(0, 0, 0), 0);
            is("the most there are", x.sign(1, 0, 28), 7 * 9);
            x.goes(0, 0, 0);
            is("over its own: none", x.sign(0, 0, 4), 0);
            is("over its own, though farther", x.steps(0, 0, 4), 8);
            is("the first alone", x.sign(0, 1, 0), 3);
            is("the last alone", x.sign(0, 0, 1), 3);
            is("one's own TUFT", x.sign(0, 0, 0), 0);
            is("another one's", x.sign(1, 0, 0), 9);
            is("of like ones the fewest STEPS", x.steps(0, 0, 24), 2);
            is("least ahead of fewest", x.sign(0, 1, 3), 6);
            is("least ahead of fewest", x.steps(0, 1, 3), 10);
            is("fewest", x.steps(1, 1, 3), 2);
            x.goes(1, 2, 0);
            is("in one's SOLE by another one: one's own", x.sign(0, 0, 24), 0);
            x.goes(0, 2, 1);
            is("in another one's SOLE: not one's own", x.sign(0, 0, 24), 3);
            x.beat(12, 12);
            is("nothing lies: not one's own", x.sign(0, 0, 24), 6);
        });
    }

    private static void wrongWalks() {
        terms("24, 25", "A WALK told is WRONG, LINE by LINE, the least:", () -> {
            RugReader x = of("rug 6 4;person a 1 1 1;wall 3 0;");
            walk(x, "a 0 0;e 4 1;", 1, 0);
            walked(x, 1, 0, 0, 0);
            walk(x, "a 1 0;e 1 1;w 5 1;", 2, 0);
            walked(x, 1, 1, 1, 2);
            walk(x, "a 1 1;e 1 1;w 2 1;", 2, 0);
            walked(x, 2, 1, 1, 14);
            walk(x, "a 1 1;e 1 1;w 1 1;", 2, 0);
            walked(x, 3, 1, 1, 14);
            // LINE by LINE: an earlier LINE's 3 ahead of a later one's 1.
            walk(x, "a 1 1;e 1 1;w 1 1;n 9 9;", 2, 0);
            walked(x, 3, 1, 1, 14);
            walk(x, "a 1 1;e 2 1;n 9 9;", 1, 0);
            walked(x, 2, 0, 0, 13);
            String ahead = "a 0 1;" + "e 1 2;w 1 2;".repeat(14) + "e 1 2;";
            walk(x, ahead + "w 1 2;", -1, 0);
            walk(x, ahead + "w 1 1;", 30, 0);
            walked(x, 3, 29, 58, 13);
        });
        terms("24, 25", "1 it leaves the rug, or goes through a wall (its first TUFT, too: LINE 0);", () -> {
            RugReader x = of("rug 6 4;person a 1 1 9;wall 3 0;wall 0 3;");
            walk(x, "a 0 0;e 2 1;", -1, 0);
            walk(x, "a 0 0;e 3 1;", 1, 0);
            walk(x, "a 0 0;e 4 1;", 1, 0);
            walk(x, "a 0 0;s 2 1;", -1, 0);
            walk(x, "a 0 0;s 3 1;", 1, 0);
            for (String out : new String[] {"0 0;n 1", "0 0;w 1", "5 3;e 1", "5 3;s 1", "5 0;n 11", "1 0;w 2",
                "1 1;e 5", "1 1;s 3"}) {
                walk(x, "a " + out + " 9;", 1, 0);
                is("why", x.walked(0), 1);
            }
            walk(x, "a 1 1;e 4 1;s 2 1;w 4 1;", -1, 0);
            walk(x, "a 1 1;e 4 1;s 2 1;w 5 1;", 3, 0);
            walked(x, 1, 6, 2, 41);
            walk(x, "a 3 0;", 0, 0);
            walked(x, 1, 0, 0, -1);
            walk(x, "a 3 0;e 1 1;", 0, 0);
            walked(x, 1, 0, 0, -1);
            walk(x, "a 0 3;s 9 1;", 0, 0);
        });
        terms("24, 25", "2 more TUFTS than PACE times MINUTES;", () -> {
            RugReader x = of("rug 12 12;person a 1 1 1;person b 1 2 9;person c 1 3 3;");
            walk(x, "a 0 0;e 1 1;", -1, 0);
            walk(x, "a 0 0;e 2 1;", 1, 0);
            walk(x, "a 0 0;e 11 11;", -1, 0);
            walk(x, "a 0 0;e 11 10;", 1, 0);
            walk(x, "b 0 0;e 9 1;", -1, 0);
            walk(x, "b 0 0;e 10 1;", 1, 0);
            walked(x, 2, 0, 0, 0);
            walk(x, "c 0 0;e 6 2;", -1, 0);
            walk(x, "c 0 0;e 7 2;", 1, 0);
            walk(x, "c 0 0;e 11 99;", -1, 0);
            // MINUTES that are left of one LINE are none of another one's.
            walk(x, "a 0 0;e 1 99;e 2 1;", 2, 0);
            walked(x, 2, 1, 99, 1);
            walk(x, "a 0 0;e 1 1;e 1 1;e 2 2;", -1, 0);
        });
    }

    private static void turns() {
        terms("24, 25", "3 it turns about (n to s, e to w, or back) in one MINUTE.", () -> {
            RugReader x = of("rug 6 6;person a 1 1 9;");
            String dirs = "nesw";
            for (int from = 0; from < 4; from++) {
                for (int to = 0; to < 4; to++) {
                    boolean about = (from + 2) % 4 == to;
                    String start = "a 2 2;" + dirs.charAt(from) + " 1 ";
                    walk(x, start + "1;" + dirs.charAt(to) + " 1 1;", about ? 2 : -1, 0);
                    is("why", x.walked(0), about ? 3 : 0);
                    walk(x, start + "1;" + dirs.charAt(to) + " 1 2;", -1, 0);
                    walk(x, start + "2;" + dirs.charAt(to) + " 1 1;", about ? 2 : -1, 0);
                }
            }
            walk(x, "a 2 2;e 1 1;s 1 1;w 1 1;n 1 1;", -1, 0);
            walk(x, "a 2 2;e 1 1;w 1 2;e 1 1;", 3, 0);
            walked(x, 3, 2, 3, 26);
            walk(x, "a 2 2;w 1 1;", -1, 0);
            // What the walk ahead did is none of this one's.
            walk(x, "a 2 2;e 1 1;", -1, 0);
        });
    }

    private static void seen() {
        terms("26, 27", "SEEN: the fewest TUFTS, no walls, none of both doors', so that each way on between two doors "
                + "goes over one of them;", () -> {
            RugReader x = of("rug 7 7;door 3 3;door 5 5;door 3 5;");
            is("four round a door, none of a door's", x.seen(0, 1), 4);
            RugReader y = of("rug 3 3;wall 0 1;wall 1 1;wall 2 1;door 0 0;door 2 2;");
            is("no way on: no TUFT", y.seen(0, 1), 0);
            is("no TUFT", y.lay(0), -1);
            RugReader z = of("rug 3 3;wall 0 1;wall 1 1;door 0 0;door 0 2;");
            is("one way on: one TUFT", z.seen(0, 1), 1);
            RugReader other = of("rug 3 2;wall 0 1;wall 1 1;wall 2 1;door 0 0;door 2 0;door 1 0;");
            is("over a third door", other.seen(0, 1), 1);
            is("a third door's TUFT can be one", other.lay(0), 1);
            // Three ways out of one door, two into the other one's corner: the fewest are two.
            RugReader w = of("rug 5 5;door 2 0;door 4 4;");
            is("as few as the narrower door", w.seen(0, 1), 2);
            is("lay(0)", w.lay(0), 40);
            is("lay(1)", w.lay(1), 51);
            RugReader v = of("rug 2 2;door 0 0;door 1 1;");
            is("two ways round", v.seen(0, 1), 2);
            is("lay(0)", v.lay(0), 1);
            is("lay(1)", v.lay(1), 12);
            RugReader u = of("rug 3 2;wall 0 0;door 0 0;door 2 0;");
            is("a door in a wall: no way on", u.seen(0, 1), 0);
            // Houses whose shortest way on takes up TUFTS that two other ones need.
            laid("rug 7 4;wall 4 1;door 1 1;door 5 1;", 3, 18, 29);
            laid("rug 7 7;wall 1 1;wall 3 1;wall 6 1;wall 2 3;wall 6 3;wall 2 4;wall 5 4;wall 0 5;wall 2 5;wall 3 6;"
                    + "door 3 3;door 0 0;", 1, 12);
            laid("rug 5 4;door 2 0;door 0 2;", 1, 3, 14);
        });
        terms("26, 27", "of like ones the first row (rising).", () -> {
            RugReader x = of("rug 12 2;" + walls(1, 11) + "door 0 0;door 11 0;");
            is("one of ten", x.seen(0, 1), 1);
            is("the first one", x.lay(0), 1);
            is("one of ten, back", x.seen(1, 0), 1);
            is("the first one", x.lay(0), 1);
            RugReader y = of("rug 12 12;door 0 0;door 11 11;");
            is("seen(0, 1)", y.seen(0, 1), 2);
            is("the first corner", y.lay(0), 1);
            is("rising", y.lay(1), 12);
            is("seen(1, 0)", y.seen(1, 0), 2);
            is("the first corner", y.lay(0), 1);
            is("rising", y.lay(1), 12);
            RugReader z = of("rug 7 7;door 3 3;door 5 5;");
            is("seen(1, 0)", z.seen(1, 0), 4);
            int[] row = {27, 38, 40, 51, -1};
            for (int i = 0; i < row.length; i++) {
                is("lay(" + i + ")", z.lay(i), row[i]);
            }
        });
    }

    /** What is SEEN between the first two doors of a HOUSE, there and back. */
    private static void laid(String house, int... row) {
        RugReader x = of(house);
        for (int from = 0; from < 2; from++) {
            is("seen(" + from + ", " + (1 - from) + ") in '" + house + "'", x.seen(from, 1 - from), row.length);
            for (int i = 0; i <= row.length; i++) {
                is("lay(" + i + ")", x.lay(i), i < row.length ? row[i] : -1);
            }
        }
    }

    private static String walls(int y, int to) {
        StringBuilder t = new StringBuilder();
        for (int i = 0; i <= to; i++) {
            t.append("wall ").append(i).append(' ').append(y).append(';');
        }
        return t.toString();
    }

    private static int next(int[] x, int n) {
        x[0] = x[0] * 1103515245 + 12345;
        return (x[0] >>> 8) % n;
    }

    private static void drawn() {
        terms("31", "DRAWN by a seed x: for each draw of n x becomes x * 1103515245 + 12345 (an int, wrapping), the "
                + "draw is (x >>> 8) % n:", () -> {
            String house = "rug 2 2;person a 1 1 9;person b 2 2 9;person c 3 3 9;person d 4 4 9;person f 5 5 9;"
                    + "way p 0 0;way q 1 0;way r 0 1;way t 1 1;way u 0 0 e 1;";
            int[] seeds = {0, 1, -1, 2, MIN, MAX, 12345, -12345, 1103515245, 0x80000000, 0x7fffff00, -256, 255};
            for (int seed : seeds) {
                RugReader x = of(house);
                x.years(1, 1, seed);
                int[] s = {seed};
                int p = next(s, 5);
                int way = next(s, 5);
                for (int k = 0; k < 5; k++) {
                    is("walks of " + k + " by " + seed, x.person(k, 5), k == p ? 1 : 0);
                }
                boolean beaten = next(s, 6) == 0;
                int at = x.way(way, 0);
                is("its way by " + seed, beaten || x.tuft(at, 2) == p && x.tuft(at, 0) == 8 * (p + 1), true);
            }
        });
        terms("31", "each DAY so many walks: draws of all people and of all WAYS, in own soles;", () -> {
            for (int walks = 1; walks <= 9; walks++) {
                RugReader x = of(TINY);
                RugReader y = of(TINY);
                x.years(5, walks, 77 * walks);
                byHand(y, 5, walks, 77 * walks, 2, 2);
                same("5 DAYS of " + walks + " walks", state(x), state(y));
                is("walks", x.person(0, 5) + x.person(1, 5), 5 * walks);
            }
        });
    }

    /** DRAWN by hand: so many DAYS of so many walks, by goes(), beat() and days(). */
    private static void byHand(RugReader y, int days, int walks, int seed, int w, int h) {
        int[] s = {seed};
        for (int day = 0; day < days; day++) {
            for (int k = 0; k < walks; k++) {
                int p = next(s, y.count(2));
                y.goes(p, next(s, y.count(3)), p);
            }
            if (next(s, 6) == 0) {
                int across = next(s, w);
                int at = 12 * next(s, h) + across;
                y.beat(at, at);
            }
            y.days(1);
        }
    }

    private static void drawnDays() {
        terms("31", "then a draw of 6: 0: draws of W and of H: that TUFT is BEATEN; then the DAY goes.", () -> {
            // A rug of 2 by 12, and walks all over it: W and H are drawn in their order, and each TUFT is hit.
            String house = "rug 2 12;person a 1 1 9;way p 0 0 s 11 e 1 n 11;way q 1 0 s 11 w 1 n 11;";
            int beaten = 0;
            for (int seed = -20; seed < 20; seed++) {
                RugReader x = of(house);
                RugReader y = of(house);
                x.years(6, 1, seed);
                byHand(y, 6, 1, seed, 2, 12);
                is("HIDDEN by " + seed, x.hidden(-1), y.hidden(-1));
                for (int k = 0; k < x.hidden(-1); k++) {
                    is("HIDDEN by " + seed, x.hidden(k), y.hidden(k));
                    is("missing by " + seed, x.missing(x.hidden(k)), y.missing(y.hidden(k)));
                    beaten++;
                }
                is("the DAY", x.count(7), 6);
                is("treads", x.person(0, 3), y.person(0, 3));
            }
            is("some were BEATEN", beaten > 20, true);
        });
    }

    /** Tells walk(), readings(), seen() and sentence() something, so that it can stay or be new. */
    private static void tellAll(RugReader x) {
        walk(x, "a 0 0;e 1 9;", -1, 0);
        readings(x, 1, 0, 0, 12, 1, 1, 0, 12, 255);
        is("seen", x.seen(0, 1), 2);
    }

    private static void newHouse() {
        terms("4, 12, 34", "A new HOUSE: a clean rug, DAY 0, no SENTENCE; nothing can be undone", () -> {
            RugReader x = of(TINY);
            x.goes(0, 0, 0);
            x.beat(0, 0);
            x.days(2);
            x.goes(1, 1, 0);
            x.goes(0, 0, 1);
            x.beat(1, 13);
            x.goes(0, 0, 1);
            sentence(x, "weight>0", 1, 0);
            tell(x, TINY);
            is("house()", x.house(), 6);
            same("a new HOUSE", state(x), state(of(TINY)));
            for (int i = 0; i < 3; i++) {
                x.days(1);
                is("nothing is HIDDEN a DAY later", x.hidden(-1), 0);
                is("nothing lies a DAY later", x.deepest(), -1);
            }
            tell(x, TINY);
            x.house();
            is("a clean rug", x.deepest(), -1);
            is("DAY 0", x.count(7), 0);
            is("no SENTENCE", x.said(-1), -1);
            is("nothing can be undone", x.undo(), -1);
            is("nothing is HIDDEN", x.hidden(-1), 0);
            is("nobody walked", x.person(0, 5) + x.person(1, 5), 0);
            x.goes(0, 0, 0);
            tell(x, "");
            is("an empty HOUSE", x.house(), 0);
            is("without people", x.count(2), 0);
            is("without a rug", x.count(0), 0);
            is("nothing can be undone", x.undo(), -1);
            tell(x, TINY);
            x.house();
            for (int p = 0; p < 2; p++) {
                for (int way = 0; way < 2; way++) {
                    x.goes(p, way, p);
                }
            }
            tell(x, TINY);
            x.house();
            same("a new HOUSE", state(x), state(of(TINY)));
        });
        terms("4, 20, 21, 25, 27, 36", "(what other calls told last stays).", () -> {
            RugReader x = of(TINY + "door 0 0;door 1 1;");
            tellAll(x);
            x.image(1);
            tell(x, "rug 3 3;door 0 0;door 2 0;person c 1 1 1;");
            is("house()", x.house(), 4);
            walked(x, 0, 1, 9, 1);
            is("lay(0)", x.lay(0), 1);
            is("lay(1)", x.lay(1), 12);
            is("read(0, 0)", x.read(0, 0), 0);
            is("read(1, 0)", x.read(1, 0), -1);
            is("fewest()", x.fewest(), 1);
            is("an image stays", x.restore(1), true);
            is("as it was kept", x.count(2), 2);
        });
    }

    private static void thrown() {
        terms("6, 7", "A call that throws changes nothing.", () -> {
            RugReader x = of(TINY + "door 0 0;door 1 1;");
            tellAll(x);
            x.goes(0, 0, 1);
            x.days(1);
            x.beat(1, 1);
            sentence(x, "trod p", 1, 0);
            x.feed(1, 2, 3, 4, 5);
            String was = state(x);
            int[] numbers = {MIN, -1, 2, MAX};
            for (int p : numbers) {
                none("person(" + p + ", 0)", () -> x.person(p, 0));
                none("tuft(" + p + ", 0)", () -> x.tuft(p, 0));
            }
            for (int what : new int[] {MIN, -1, 8, MAX}) {
                none("person(0, " + what + ")", () -> x.person(0, what));
                none("tuft(0, " + what + ")", () -> x.tuft(0, what));
            }
            same("behind calls that threw", state(x), was);
            is("undo()", x.undo(), 2);
            is("undo()", x.undo(), 1);
            is("undo()", x.undo(), 0);
        });
    }
}
