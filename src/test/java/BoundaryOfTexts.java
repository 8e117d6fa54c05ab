import java.util.function.Consumer;

/** What 'Terms' says of texts: TOKENS, HOUSE, WALK, SENTENCE, FAULTS. */
final class BoundaryOfTexts extends Boundary {
    /** The words that the document tells in quotes: none of them is a NAME. */
    private static final String[] WORDS = {"rug", "person", "wall", "door", "way", "fade", "n", "e", "s", "w", "or",
        "and", "not", "trod", "weight", "sole", "pace", "prints", "tufts", "place"};
    private static final String[] NAMES = {"a", "b", "c", "d", "f", "g", "h"};
    /** Nineteen ONES in few bytes. */
    private static final String NINETEEN = "not(not(not pace<3 or sole<3 or sole<4 or sole<5 or sole<6 or sole<7 or sole<8"
            + " or sole<9)and pace<1 and pace<2 and pace<3 and pace<4 and pace<5 and pace<6)";
    private static final String SMALL = "rug 3 3;person a 1 1 9;person b 2 2 9;way p 0 0;";

    static void all() {
        tokens();
        goingOn();
        houseLines();
        people();
        wallsDoorsFade();
        waysAndDirs();
        names();
        howMany();
        walkTexts();
        sentenceTexts();
        ones();
        faultOrder();
        faultOne();
        faultTwoThree();
        faultFour();
        faultFourOfTexts();
        faultFive();
    }

    private static void tokens() {
        terms("4, 24, 33", "TOKENS of all texts, with blanks (32, 10) between them or not:", () -> {
            house("fade 3;", 1, 0);
            house("fade\n3\n;\n", 1, 0);
            house(" \n fade \n\n  3 \n ; \n ", 1, 0);
            house("rug 2 2;wall 0 0;door 0 0;", 3, 0);
            house("rug 2 2 ; wall 0 0 ; door 0 0 ;", 3, 0);
            for (int c : new int[] {0, 1, 9, 11, 12, 13, 31, 33, 127, 128, 138, 160, 255}) {
                houseFault("fade^" + (char) c + "3;", 1);
                houseFault("fade 3;^" + (char) c, 1);
                houseFault("^" + (char) c + "fade 3;", 1);
            }
            RugReader x = of(SMALL);
            walk(x, "a 1 1;e 1 1;", -1, 0);
            walk(x, "\na\n1\n1\n;\ne\n1\n1\n;\n", -1, 0);
            walk(x, " a 1 1 ; e 1 1 ; ", -1, 0);
            walkFault(x, "a^\t1 1;", 1);
            walkFault(x, "a 1 1;^\r", 1);
            sentence(x, "(weight<5)and(sole=1)", 4, 0);
            sentence(x, " ( weight\n<\n5 )\nand\n( sole = 1 )\n", 4, 0);
            sentenceFault(x, "weight^\t<5", 1);
            sentenceFault(x, "weight<5^\r", 1);
        });
        terms("4, 33", "WORDS: small letters, 1 to 7;", () -> {
            house("person a 1 1 1;person z 1 1 1;", 2, 0);
            house("person abcdefg 1 1 1;person abcdefh 1 1 1;person bbcdefg 1 1 1;person abcdef 1 1 1;", 4, 0);
            house("person zzzzzzz 1 1 1;person zzzzzz 1 1 1;person zzzzzzy 1 1 1;person yzzzzzz 1 1 1;", 4, 0);
            houseFault("person ^abcdefgh 1 1 1;", 1);
            houseFault("person ^" + "a".repeat(9) + " 1 1 1;", 1);
            houseFault("person ^" + "a".repeat(890), 1);
            houseFault("^personas a 1 1 1;", 1);
            houseFault("person ^A 1 1 1;", 1);
            houseFault("person ^Z 1 1 1;", 1);
            houseFault("person ^` 1 1 1;", 1);
            houseFault("person ^{ 1 1 1;", 1);
            houseFault("person a^B 1 1 1;", 1);
            houseFault("^Fade 3;", 1);
            houseFault("^fAde 3;", 1);
            sentenceFault(of(SMALL), "trod ^abcdefgh", 1);
        });
        terms("4, 33", "NUMBERS: 1 to 3 digits;", () -> {
            house("fade 9;", 1, 0);
            house("fade 09;", 1, 0);
            house("fade 009;", 1, 0);
            houseFault("fade ^0009;", 1);
            houseFault("fade ^1000;", 1);
            houseFault("fade ^4294967299;", 1);
            houseFault("fade ^18446744073709551619;", 1);
            houseFault("fade ^/;", 1);
            houseFault("fade ^:;", 1);
            houseFault("fade ^-1;", 1);
            houseFault("fade ^+1;", 1);
            houseFault("fade ^;", 1);
            is("'fade 007'", of("fade 007;").count(6), 7);
            is("all digits", of("person a 9 0 8;person b 7 1 6;person c 5 2 4;person d 3 9 1;").person(3, 1), 9);
            RugReader x = of(SMALL);
            sentence(x, "place<999", 1, 0);
            sentence(x, "place<000", 1, 0);
            sentenceFault(x, "place<^0000", 1);
            sentenceFault(x, "place<^1000", 1);
        });
        terms("4, 33", "; < = > ( ) .", () -> {
            RugReader x = of(SMALL);
            sentence(x, "(weight<5)and(sole=1)or(pace>0)", 6, 0);
            for (char c : "'*:?.,!+-[]{}&|/".toCharArray()) {
                sentenceFault(x, "^" + c + "weight=5", 1);
                sentenceFault(x, "weight^" + c + "5", 1);
                sentenceFault(x, "weight=5^" + c, 1);
                houseFault("fade 3^" + c, 1);
            }
            sentenceFault(x, "weight<^=5", 1);
            sentenceFault(x, "weight=^=5", 1);
            sentenceFault(x, "weight^;5", 1);
            sentenceFault(x, "weight=5^;", 1);
            for (char c : "<=>()".toCharArray()) {
                houseFault("fade 3^" + c, 1);
                houseFault("^" + c, 1);
                walkFault(x, "a 0 0^" + c, 1);
            }
        });
    }

    private static void goingOn() {
        terms("4, 24, 33", "(A WORD, NUMBER goes on as long as small letters and digits do;", () -> {
            houseFault("^fade3;", 1);
            houseFault("fade ^3fade;", 1);
            houseFault("rug ^2x2;", 1);
            houseFault("person ^a1 1 1;", 1);
            houseFault("rug 3 3;way p 0 0 ^e1;", 1);
            house("person a 1 1 1;fade 3;", 2, 0);
            RugReader x = of(SMALL);
            sentenceFault(x, "weight=^5and sole=1", 1);
            sentenceFault(x, "weight=5 ^and1", 1);
            sentenceFault(x, "^weight5", 1);
            sentence(x, "not(trod p)or(trod p)and weight=5", 6, 0);
            walkFault(x, "^a0 0;", 1);
            walkFault(x, "a 0 0;^e1 1;", 1);
        });
        terms("4, 24, 33", "what is not as told is no TOKEN.)", () -> {
            houseFault("person ^abcdef1 1 1 1;", 1);
            houseFault("person ^1abcdef 1 1 1;", 1);
            houseFault("person a ^1a 1 1;", 1);
            houseFault("person a ^01a 1 1;", 1);
            houseFault("fade ^12ab", 1);
            houseFault("fade ^abcdefgh12345678;", 1);
            // What is no TOKEN is one FAULT ahead of all that it could be said to be.
            houseFault("fade 1;^fadefade 1;", 1);
            RugReader x = of(SMALL);
            walkFault(x, "a ^0000 0;", 1);
            walkFault(x, "^zzzzzzzz 0 0;", 1);
            sentenceFault(x, "trod ^p2", 1);
            sentenceFault(x, "^\u0000", 1);
        });
    }

    private static void houseLines() {
        terms("4", "A HOUSE is a text of at most 900 bytes:", () -> {
            house("fade 3;" + wide(893), 1, 0);
            house(wide(893) + "fade 3;", 1, 0);
            house(wide(900), 0, 0);
            houseFault(wide(900) + "^ ", 1);
            houseFault("fade 3;" + wide(893) + "^ ", 1);
            houseFault("fade 3;" + wide(893) + "^" + wide(40), 1);
            houseFault(wide(894) + "fade 3^;", 1);
            houseFault(wide(893) + "fade 3;^x", 1);
        });
        terms("4", "{ LINE ; }.", () -> {
            house("", 0, 0);
            house(" ", 0, 0);
            house("fade 3;", 1, 0);
            house("fade 3;rug 2 2;", 2, 0);
            house(full(), 52, 0);
            houseFault("fade 3^", 1);
            houseFault("fade 3 ^", 1);
            houseFault("^;", 1);
            houseFault("fade 3;^;", 1);
            houseFault("fade 3 ^rug 2 2;", 1);
            houseFault("^3;", 1);
            houseFault("^a;", 1);
            for (String word : WORDS) {
                boolean begins = "rug person wall door way fade".contains(word) && word.length() > 2;
                houseFault(begins ? word + "^;" : "^" + word + ";", 1);
            }
        });
        terms("4, 37", "LINE: 'rug' W H (2 to 12 both; once, ahead of all that has X and Y)", () -> {
            for (int n = 0; n <= 14; n++) {
                boolean may = n >= 2 && n <= 12;
                house("rug " + n + " 5;", may ? 1 : -5, may ? 0 : 2);
                house("rug 5 " + n + ";", may ? 1 : -7, may ? 0 : 2);
            }
            houseFault("rug ^999 5;", 2);
            houseFault("rug 2 ^999;", 2);
            house("rug 2 2;", 1, 0);
            house("rug 12 12;", 1, 0);
            RugReader x = of("rug 2 12;");
            is("count(0)", x.count(0), 2);
            is("count(1)", x.count(1), 12);
            houseFault("rug 2 2;^rug 2 2;", 3);
            houseFault("rug 2 2;^rug 3 3;", 3);
            houseFault("wall ^0 0;rug 2 2;", 2);
            houseFault("door ^0 0;rug 2 2;", 2);
            houseFault("way p ^0 0;rug 2 2;", 2);
            house("person a 1 1 1;fade 3;rug 2 2;wall 0 0;", 4, 0);
            houseFault("rug^;", 1);
            houseFault("rug 2^;", 1);
            houseFault("rug 2 2 ^2;", 1);
        });
    }

    /** A HOUSE of as many LINES as there can be. */
    static String full() {
        StringBuilder t = new StringBuilder("rug 12 12;fade 9;");
        for (int i = 0; i < 6; i++) {
            t.append("person ").append(NAMES[i]).append(' ').append(i + 1).append(' ').append(9 - i).append(" 1;");
        }
        for (int i = 0; i < 6; i++) {
            t.append("way p").append(NAMES[i]).append(' ').append(i).append(" 11;");
        }
        for (int i = 0; i < 30; i++) {
            t.append("wall ").append(i % 10).append(' ').append(i / 10).append(';');
        }
        for (int i = 0; i < 8; i++) {
            t.append("door ").append(i).append(" 5;");
        }
        return t.toString();
    }

    private static void people() {
        terms("4, 6", "'person' NAME WEIGHT SOLE PACE (1 to 9; 0 to 9; 1 to 9)", () -> {
            for (int n = 0; n <= 11; n++) {
                boolean may = n >= 1 && n <= 9;
                house("person a " + n + " 1 1;", may ? 1 : -10, may ? 0 : 2);
                house("person a 1 " + n + " 1;", n <= 9 ? 1 : -12, n <= 9 ? 0 : 2);
                house("person a 1 1 " + n + ";", may ? 1 : -14, may ? 0 : 2);
            }
            houseFault("person a ^999 1 1;", 2);
            houseFault("person a 1 ^255 1;", 2);
            houseFault("person a 1 1 ^100;", 2);
            RugReader x = of("person a 1 0 9;person b 9 9 1;");
            int[] due = {1, 0, 9};
            for (int what = 0; what < 3; what++) {
                is("person(0, " + what + ")", x.person(0, what), due[what]);
            }
            is("person(1, 0)", x.person(1, 0), 9);
            is("person(1, 1)", x.person(1, 1), 9);
            is("person(1, 2)", x.person(1, 2), 1);
            houseFault("person^;", 1);
            houseFault("person a^;", 1);
            houseFault("person a 1^;", 1);
            houseFault("person a 1 1^;", 1);
            houseFault("person a 1 1 1 ^1;", 1);
        });
    }

    private static void wallsDoorsFade() {
        terms("4, 7", "'wall' X Y | 'door' X Y", () -> {
            for (String what : new String[] {"wall", "door"}) {
                houseFault("rug 3 4;" + what + "^;", 1);
                houseFault("rug 3 4;" + what + " 0^;", 1);
                houseFault("rug 3 4;" + what + " 0 0 ^0;", 1);
                house("rug 3 4;" + what + " 2 3;", 2, 0);
            }
            RugReader x = of("rug 3 4;wall 0 0;door 2 3;wall 1 3;door 1 3;");
            int[][] due = {{0, 1, 0}, {1, 0, 0}, {12, 0, 0}, {38, 0, 1}, {37, 1, 1}, {36, 0, 0}, {26, 0, 0}};
            for (int[] d : due) {
                is("tuft(" + d[0] + ", 6)", x.tuft(d[0], 6), d[1]);
                is("tuft(" + d[0] + ", 7)", x.tuft(d[0], 7), d[2]);
            }
        });
        terms("4, 37", "'fade' N (1 to 9 days; once; 9 without).", () -> {
            for (int n = 0; n <= 11; n++) {
                boolean may = n >= 1 && n <= 9;
                house("fade " + n + ";", may ? 1 : -6, may ? 0 : 2);
            }
            houseFault("fade ^999;", 2);
            is("fade 1", of("fade 1;").count(6), 1);
            is("fade 9", of("fade 9;").count(6), 9);
            is("without", of("rug 2 2;").count(6), 9);
            houseFault("fade 9;^fade 9;", 3);
            houseFault("fade 1;rug 2 2;^fade 2;", 3);
            houseFault("fade^;", 1);
            houseFault("fade 1 ^1;", 1);
        });
        terms("4, 7, 24", "X from 0, below W, Y from 0, below H.", () -> {
            for (String line : new String[] {"wall ", "door ", "way p "}) {
                String rug = "rug 2 5;" + line;
                house(rug + "0 0;", 2, 0);
                house(rug + "1 4;", 2, 0);
                houseFault(rug + "^2 0;", 2);
                houseFault(rug + "^2 4;", 2);
                houseFault(rug + "0 ^5;", 2);
                houseFault(rug + "1 ^5;", 2);
                houseFault(rug + "^999 0;", 2);
                houseFault(rug + "0 ^999;", 2);
                house("rug 12 12;" + line + "11 11;", 2, 0);
                houseFault("rug 12 12;" + line + "^12 11;", 2);
                houseFault("rug 12 12;" + line + "11 ^12;", 2);
            }
            RugReader x = of("rug 2 5;person a 1 1 9;");
            walk(x, "a 0 0;", -1, 0);
            walk(x, "a 1 4;", -1, 0);
            walkFault(x, "a ^2 0;", 2);
            walkFault(x, "a 0 ^5;", 2);
        });
    }

    private static void waysAndDirs() {
        terms("4, 8, 9", "'way' NAME X Y { DIR N } (STEPS from a tuft on, 40 at most in all)", () -> {
            RugReader x = of("rug 12 12;person a 1 1 1;way p 3 2;way q 0 0 e 11 s 11 w 11 n 7;way r 0 0"
                    + " e 1 w 1".repeat(20) + ";way t 0 0 e 2 s 3;");
            is("no STEPS: one TUFT", x.way(0, 0), 27);
            is("no STEPS: no other", x.way(0, 1), -1);
            is("40 STEPS: the first", x.way(1, 0), 0);
            is("40 STEPS: the last", x.way(1, 40), 48);
            is("40 STEPS: no more", x.way(1, 41), -1);
            is("40 single STEPS: the last", x.way(2, 40), 0);
            is("40 single STEPS: no more", x.way(2, 41), -1);
            int[] due = {0, 1, 2, 14, 26, 38, -1};
            for (int i = 0; i < due.length; i++) {
                is("way(3, " + i + ")", x.way(3, i), due[i]);
            }
            is("treads of 40 STEPS", x.goes(0, 1, 0), 41);
            is("treads of no STEP", x.goes(0, 0, 0), 1);
            houseFault("rug 12 12;way p 0 0 e 11 s 11 w 11 n ^8;", 4);
            houseFault("rug 12 12;way p 0 0 e 11 s 11 w 11 n 7 n ^1;", 4);
            houseFault("rug 12 12;way r 0 0" + " e 1 w 1".repeat(20) + " e ^1;", 4);
            houseFault("rug 3 3;way^;", 1);
            houseFault("rug 3 3;way p^;", 1);
            houseFault("rug 3 3;way p 0^;", 1);
            houseFault("rug 3 3;way p 0 0 e^;", 1);
            houseFault("rug 3 3;way p 0 0 ^1;", 1);
            houseFault("rug 3 3;way p 0 0 e 1 ^1;", 1);
        });
        terms("4, 8, 24", "DIR: 'n' | 'e' | 's' | 'w' (Y less, X more, Y more, X less); N 1 to 11.", () -> {
            RugReader x = of("rug 3 3;person a 1 1 9;way p 1 1 n 1;way q 1 1 e 1;way r 1 1 s 1;way t 1 1 w 1;");
            int[] due = {1, 14, 25, 12};
            for (int way = 0; way < 4; way++) {
                is("way(" + way + ", 1)", x.way(way, 1), due[way]);
                walk(x, "a 1 1;" + "nesw".charAt(way) + " 1 1;", -1, 0);
                is("walked(3)", x.walked(3), due[way]);
            }
            house("rug 12 12;way p 0 11 n 11 e 11 s 11;way q 11 11 w 11;", 3, 0);
            house("rug 12 12;way p 0 0 e 1 e 10;", 2, 0);
            for (String dir : new String[] {"n", "e", "s", "w"}) {
                houseFault("rug 12 12;way p 5 5 " + dir + " ^0;", 2);
                houseFault("rug 12 12;way p 0 0 " + dir + " ^12;", 2);
                houseFault("rug 12 12;way p 0 0 " + dir + " ^999;", 2);
                walkFault(x, "a 1 1;" + dir + " ^0 1;", 2);
                walkFault(x, "a 1 1;" + dir + " ^12 1;", 2);
            }
            houseFault("rug 3 3;way p 0 0 ^x 1;", 1);
            houseFault("rug 3 3;way p 0 0 ^ne 1;", 1);
        });
        terms("7, 8, 29", "TUFTS are told by numbers: 12 times Y and X.", () -> {
            RugReader x = of("rug 12 12;way p 0 0;way q 11 0;way r 0 1;way t 11 11;way u 4 2;");
            int[] due = {0, 11, 12, 143, 28};
            for (int way = 0; way < due.length; way++) {
                is("way(" + way + ", 0)", x.way(way, 0), due[way]);
                is("ways(" + due[way] + ")", x.ways(due[way]), 1 << way);
            }
            none("tuft(144, 0)", () -> x.tuft(144, 0));
            RugReader y = of("rug 2 3;");
            for (int at = -2; at < 60; at++) {
                boolean on = at == 0 || at == 1 || at == 12 || at == 13 || at == 24 || at == 25;
                is("ways(" + at + ")", y.ways(at), on ? 0 : -1);
            }
        });
    }

    private static void names() {
        terms("4, 24, 33", "NAME: a WORD, none of those told here, in a WALK or in a SENTENCE;", () -> {
            RugReader x = of(SMALL);
            for (String word : WORDS) {
                houseFault("person ^" + word + " 1 1 1;", 1);
                houseFault("rug 2 2;way ^" + word + " 0 0;", 1);
                walkFault(x, "^" + word + " 0 0;", 1);
                sentenceFault(x, "trod ^" + word, 1);
                // A WORD with one letter more is another WORD.
                String longer = word.length() < 7 ? word + "x" : word.substring(1);
                house("person " + longer + " 1 1 1;", 1, 0);
            }
            house("person x 1 1 1;person y 1 1 1;person tuft 1 1 1;person line 1 1 1;person ne 1 1 1;", 5, 0);
            houseFault("person ^1 1 1 1;", 1);
            houseFault("person ^; 1 1 1;", 1);
        });
        terms("4", "told once (people, ways).", () -> {
            houseFault("person a 1 1 1;person ^a 2 2 2;", 3);
            houseFault("rug 2 2;way a 0 0;way ^a 1 1;", 3);
            houseFault("rug 2 2;person a 1 1 1;way ^a 0 0;", 3);
            houseFault("rug 2 2;way a 0 0;person ^a 1 1 1;", 3);
            houseFault("person a 1 1 1;person b 1 1 1;person c 1 1 1;person d 1 1 1;person f 1 1 1;person ^a 1 1 1;",
                    3);
            houseFault("person abcdefg 1 1 1;person ^abcdefg 1 1 1;", 3);
            house("rug 2 2;person a 1 1 1;person aa 1 1 1;way b 0 0;way bb 0 0;", 5, 0);
            // A NAME of a HOUSE that was is none of the one that is told.
            RugReader x = of("rug 2 2;person a 1 1 1;way p 0 0;");
            tell(x, "rug 2 2;person p 1 1 1;way a 0 0;");
            is("other names", x.house(), 3);
        });
    }

    private static void howMany() {
        terms("4, 6, 8, 26, 37", "6 people, 6 WAYS, 30 walls, 8 doors at most, numbered from 0 each.", () -> {
            RugReader x = of(full());
            int[] due = {12, 12, 6, 6, 30, 8};
            for (int what = 0; what < due.length; what++) {
                is("count(" + what + ")", x.count(what), due[what]);
            }
            for (int i = 0; i < 6; i++) {
                is("person(" + i + ", 0)", x.person(i, 0), i + 1);
                is("person(" + i + ", 1)", x.person(i, 1), 9 - i);
                is("way(" + i + ", 0)", x.way(i, 0), 132 + i);
            }
            none("person(6, 0)", () -> x.person(6, 0));
            is("way(6, 0)", x.way(6, 0), -1);
            is("the 30th wall", x.tuft(33, 6), 1);
            is("beside it", x.tuft(34, 6), 0);
            is("seen(0, 7)", x.seen(0, 7) > 0, true);
            is("seen(6, 7) beside each other", x.seen(6, 7), -1);
            is("seen(0, 8)", x.seen(0, 8), -1);
            is("seen(8, 0)", x.seen(8, 0), -1);
            houseFault(full() + "^person h 1 1 1;", 4);
            houseFault(full() + "^way h 0 0;", 4);
            houseFault(full() + "^wall 11 11;", 4);
            houseFault(full() + "^door 11 11;", 4);
        });
    }

    private static void walkTexts() {
        terms("24", "A WALK is a text of at most 300 bytes:", () -> {
            RugReader x = of(SMALL);
            walk(x, "a 0 0;" + wide(294), -1, 0);
            walk(x, wide(288) + "a 0 0;e 1 1;", -1, 0);
            walkFault(x, "a 0 0;" + wide(294) + "^ ", 1);
            walkFault(x, "a 0 0;" + wide(294) + "^" + wide(640), 1);
            walkFault(x, wide(289) + "a 0 0;e 1 1^;", 1);
        });
        terms("24", "PERSON X Y ; { DIR N MINUTES ; } (N 1 to 11, MINUTES 1 to 99; 30 LINES at most).", () -> {
            RugReader x = of("rug 12 12;person a 1 1 9;way p 0 0;");
            walk(x, "a 11 11;", -1, 0);
            walk(x, "a 0 0;e 1 1;", -1, 0);
            walk(x, "a 0 0;e 11 99;", -1, 0);
            walk(x, "a 0 0;s 11 2;", -1, 0);
            walkFault(x, "a 0 0;e ^0 1;", 2);
            walkFault(x, "a 0 0;e ^12 1;", 2);
            walkFault(x, "a 0 0;e 1 ^0;", 2);
            walkFault(x, "a 0 0;e 1 ^100;", 2);
            walkFault(x, "a 0 0;e 1 ^999;", 2);
            walkFault(x, "^", 1);
            walkFault(x, "a^", 1);
            walkFault(x, "a 0^", 1);
            walkFault(x, "a 0 0^", 1);
            walkFault(x, "a 0 0 ^e 1 1;", 1);
            walkFault(x, "a 0 0;^;", 1);
            walkFault(x, "a 0 0;e^;", 1);
            walkFault(x, "a 0 0;e 1^;", 1);
            walkFault(x, "a 0 0;e 1 1^", 1);
            walkFault(x, "a 0 0;e 1 1 ^1;", 1);
            walkFault(x, "a 0 0;^a 1 1;", 1);
            walkFault(x, "^;", 1);
            String thirty = "a 0 0;" + "e 1 2;w 1 2;".repeat(15);
            walk(x, thirty, -1, 0);
            is("MINUTES of 30 LINES", x.walked(2), 60);
            walkFault(x, thirty + "^e 1 2;", 4);
        });
    }

    private static void sentenceTexts() {
        terms("33", "A SENTENCE is a text of at most 200 bytes:", () -> {
            RugReader x = of(SMALL);
            sentence(x, "pace<1" + wide(194), 1, 0);
            sentence(x, wide(194) + "pace<1", 1, 0);
            sentenceFault(x, "pace<1" + wide(194) + "^ ", 1);
            sentenceFault(x, "pace<1" + wide(194) + "^" + wide(740), 1);
            sentenceFault(x, "pace<1" + wide(190) + " and^ pace<1", 1);
        });
        terms("33, 34", "COND: ALL { 'or' ALL }. ALL: ONE { 'and' ONE }.", () -> {
            RugReader x = of("person a 1 1 9;person b 2 2 9;person c 3 3 9;");
            said(x, "place=0", 1);
            said(x, "place=0 or place=1", 3);
            said(x, "place=0 or place=1 or place=2", 7);
            said(x, "place<2 and place>0", 2);
            said(x, "place<2 and place>0 and pace=9", 2);
            said(x, "place=0 or place=1 and place=2", 1);
            said(x, "place=0 and place=1 or place=2", 4);
            said(x, "place=1 and place=0 or place=2 and sole=3 or place=0", 5);
            sentenceFault(x, "^", 1);
            sentenceFault(x, "^or place=0", 1);
            sentenceFault(x, "^and place=0", 1);
            sentenceFault(x, "place=0 or^", 1);
            sentenceFault(x, "place=0 and^", 1);
            sentenceFault(x, "place=0 or ^or place=1", 1);
            sentenceFault(x, "place=0 and ^or place=1", 1);
            sentenceFault(x, "place=0 ^place=1", 1);
            sentenceFault(x, "place=0 ^not place=1", 1);
            sentenceFault(x, "place=0 ^(place=1)", 1);
        });
        terms("33, 34", "ONE: 'not' ONE | ( COND )", () -> {
            RugReader x = of("person a 1 1 9;person b 2 2 9;person c 3 3 9;");
            said(x, "not place=0", 6);
            said(x, "not not place=0", 1);
            said(x, "not place=0 and place=1", 2);
            said(x, "not place=0 or place=0", 7);
            said(x, "not(place=0 or place=1)", 4);
            said(x, "(place=0 or place=1)and place=1", 2);
            said(x, "((place=0))", 1);
            // What stands ahead of brackets waits until they are judged.
            said(x, "place<2 and(place<2 and place<1)", 1);
            said(x, "place<1 or(place=1 and place<2)", 3);
            said(x, "place=0 or(place=1 or place=2)", 7);
            said(x, "place<3 and(place=0 or place=1)", 3);
            said(x, "place=2 or(place<2 and(place<1 or place=2))", 5);
            said(x, "place<2 and(place>0 or(place<1 and sole=1))", 3);
            said(x, "place<2 and(place<2 and(place<2 and(place<2 and(place<2 and place>0))))", 2);
            said(x, "place=0 or(place=5 or(place=5 or(place=5 or(place=5 or(place=2)))))", 5);
            said(x, "not place=0 and(not place=1 or not(place=2 or place=1))", 4);
            said(x, "(place=0 or place=1)and(place=1 or place=2)", 2);
            said(x, "(place=0 and place=1)or(place=1 and not place=2)", 2);
            sentenceFault(x, "not^", 1);
            sentenceFault(x, "not ^or place=0", 1);
            sentenceFault(x, "(^", 1);
            sentenceFault(x, "(^)", 1);
            sentenceFault(x, "(place=0^", 1);
            sentenceFault(x, "place=0^)", 1);
            sentenceFault(x, "(place=0)^)", 1);
            sentenceFault(x, "((place=0)^", 1);
        });
    }

    private static void ones() {
        terms("33, 34", "'trod' WAY (a print of this one, of whatever soles, lies on a TUFT of it)", () -> {
            RugReader x = of("rug 5 3;fade 2;person a 3 1 2;person b 5 2 1;person c 5 3 9;way p 0 0 e 4;"
                    + "way q 0 2 n 2 e 1;way r 4 2;way t 0 2;way u 0 1 e 2;way v 1 1 e 1;");
            said(x, "trod p", 0);
            x.goes(0, 1, 1);
            said(x, "trod q", 1);
            said(x, "trod p", 1);
            said(x, "trod r", 0);
            said(x, "trod t", 1);
            said(x, "trod u", 1);
            said(x, "trod v", 0);
            x.goes(1, 0, 2);
            said(x, "trod q", 3);
            x.beat(0, 1);
            said(x, "trod q", 1);
            said(x, "trod p", 2);
            x.days(1);
            saidNow(x, "'trod p' a DAY later", 2);
            x.days(1);
            saidNow(x, "'trod p' when all is gone", 0);
            sentenceFault(x, "trod^", 1);
            sentenceFault(x, "trod ^(", 1);
            sentenceFault(x, "trod ^1", 1);
        });
        terms("33, 34", "( 'weight' | 'sole' | 'pace' | 'prints' (treads that lie yet) | 'tufts' (on so many) "
                + "| 'place' (its number) ) SIGN NUMBER.", () -> {
            RugReader x = of("rug 5 3;fade 2;person a 3 1 2;person b 5 0 9;way p 0 0 e 1 w 1;way q 0 0 e 1;");
            x.goes(0, 0, 1);
            x.days(1);
            x.goes(0, 1, 0);
            x.goes(1, 1, 0);
            String[] words = {"weight", "sole", "pace", "prints", "tufts", "place"};
            int[] ofA = {3, 1, 2, 5, 2, 0};
            int[] ofB = {5, 0, 9, 2, 2, 1};
            for (int i = 0; i < words.length; i++) {
                said(x, words[i] + "=" + ofA[i], ofA[i] == ofB[i] ? 3 : 1);
                said(x, words[i] + "=" + ofB[i], ofA[i] == ofB[i] ? 3 : 2);
                said(x, words[i] + ">999", 0);
                sentenceFault(x, words[i] + "^", 1);
                sentenceFault(x, words[i] + "=^", 1);
                sentenceFault(x, words[i] + " ^5", 1);
            }
            x.days(1);
            said(x, "prints=2", 3);
            x.beat(1, 1);
            said(x, "prints=1", 3);
            said(x, "tufts=1", 3);
            x.days(1);
            said(x, "prints=0 and tufts=0", 3);
        });
        terms("33, 34", "SIGN: < = >.", () -> {
            RugReader x = of("person a 4 0 1;person b 5 0 1;person c 6 0 1;");
            said(x, "weight<5", 1);
            said(x, "weight=5", 2);
            said(x, "weight>5", 4);
            said(x, "sole<0", 0);
            said(x, "sole=0", 7);
            said(x, "sole>0", 0);
            said(x, "weight<999", 7);
            said(x, "weight>999", 0);
            said(x, "weight=999", 0);
            for (char c : "();".toCharArray()) {
                sentenceFault(x, "weight^" + c + "5", 1);
            }
        });
        terms("33", "20 ONES, 8 within one another.", () -> {
            RugReader x = of(SMALL);
            String beside = "pace<1" + " or pace<1".repeat(18);
            sentence(x, beside, 19, 0);
            sentence(x, beside + " or sole=1", 20, 0);
            sentenceFault(x, NINETEEN + "or pace<7 or ^pace<8", 4);
            sentence(x, "not not not not not not not pace<3", 8, 0);
            sentence(x, "(((((((pace<3)))))))", 8, 0);
            sentence(x, "not(not(not(not pace<3)))", 8, 0);
            // Beside each other, not within: twenty with eight deep twice.
            sentence(x, "(((((((pace<3)))))))or(((((((pace<3)))))))or pace<1 or pace<2 or pace<3 or pace<4", 20, 0);
        });
        terms("33, 34", "It is said of people.", () -> {
            RugReader x = of("rug 2 2;");
            sentence(x, "weight<5", 1, 0);
            is("of nobody", x.said(-1), 0);
            is("of nobody", x.said(0), -1);
            RugReader y = of("person a 1 1 1;person b 1 1 1;person c 1 1 1;person d 1 1 1;person f 1 1 1;"
                    + "person g 1 1 1;");
            said(y, "weight=1", 63);
            said(y, "place=5", 32);
        });
    }

    private static void faultOrder() {
        terms("4, 5, 24, 33", "FAULTS, the first along the text, of one TOKEN the least:", () -> {
            houseFault("rug ^1 13;x", 2);
            houseFault("fade ^10", 2);
            houseFault("person ^rug 0 10 0;", 1);
            houseFault("fade 1;^fade 10;", 3);
            houseFault("rug 2 2;wall ^2 2;", 2);
            // A number that is no TOKEN is 1, not 2; one not as told 2, not 4 or 5; a 41st STEP 4, not 5.
            houseFault("fade ^1000;", 1);
            houseFault("rug 2 2;way p 0 0 n ^12;", 2);
            houseFault("rug 2 2;way p 0 0 e 1 w 1" + " e 1 w 1".repeat(19) + " n ^1;", 4);
            houseFault("rug 2 2;wall 0 1;way p 0 ^2;", 2);
            // A LINE too many is told at its first WORD, ahead of all else in it.
            houseFault(full() + "^person a 0 0 0;", 4);
            houseFault(full() + "^way pa 99 99 x;", 4);
            houseFault(full() + "^wall 0 0;", 4);
            houseFault(full() + "^door 0 5;", 4);
            houseFault(full() + "^rug 99 99;", 3);
            houseFault(full() + "^x", 1);
            RugReader x = of(SMALL);
            String thirty = "a 0 0;" + "e 1 2;w 1 2;".repeat(15);
            walkFault(x, thirty + "^e 99 0;", 4);
            walkFault(x, thirty + "^5 99 0;", 1);
            walkFault(x, "^zz 9 9;", 3);
            walkFault(x, "^p 9 9;", 3);
            walkFault(x, "a ^9 9;", 2);
            sentenceFault(x, "trod ^zz and", 3);
            sentenceFault(x, "not not not not not not not not ^trod zz", 4);
            sentenceFault(x, "not not not not not not not not ^zz", 1);
        });
    }

    /** Each TOKEN of a text, put apart by blanks, once by one that can't come there or is none: FAULT 1 at it. */
    private static void badAtEach(String text, String sign, Consumer<String> fault) {
        String[] tokens = text.split(" ");
        for (String bad : new String[] {sign, "7", "zz", "?", "A", "abcdefgh", "1a", "0000", "\u00ff", "\t"}) {
            for (int i = 0; i < tokens.length; i++) {
                boolean mayCome = bad.equals("7") ? tokens[i].matches("[0-9]") : bad.equals("zz") && isName(tokens[i]);
                if (!mayCome) {
                    String[] told = tokens.clone();
                    told[i] = "^" + bad;
                    fault.accept(String.join(" ", told));
                }
            }
        }
    }

    private static boolean isName(String token) {
        return token.equals("a") || token.equals("p");
    }

    private static void faultOne() {
        terms("4, 5, 24, 33", "1 no TOKEN, or one that can't come (at it;", () -> {
            badAtEach("rug 5 3 ; person a 3 1 2 ; way p 0 0 e 4 s 1 ; wall 2 1 ; door 0 0 ; fade 4 ;", "<",
                    t -> houseFault(t, 1));
            badAtEach("a 0 0 ; e 1 1 ;", "<", t -> walkFault(of(SMALL), t, 1));
            badAtEach("not ( trod p or sole = 1 ) and place", ";", t -> sentenceFault(of(SMALL), t, 1));
        });
        terms("4, 5, 24, 33", "the end: how many bytes there are;", () -> {
            houseFault("rug^", 1);
            houseFault("rug ^", 1);
            houseFault("rug  \n^", 1);
            houseFault("rug 2^", 1);
            houseFault("rug 2 2^", 1);
            houseFault("rug 2 2 \n^", 1);
            houseFault("rug 2 2;fade 3^", 1);
            houseFault(wide(894) + "fade 3^", 1);
            houseFault(wide(893) + "fade 3^", 1);
            RugReader x = of(SMALL);
            walkFault(x, "^", 1);
            walkFault(x, " ^", 1);
            walkFault(x, "a 0 0 \n^", 1);
            walkFault(x, wide(295) + "a 0 0^", 1);
            sentenceFault(x, "^", 1);
            sentenceFault(x, " \n^", 1);
            sentenceFault(x, "weight = ^", 1);
            sentenceFault(x, wide(192) + "weight =^", 1);
        });
        terms("4, 5, 24, 33", "the most bytes told, if there are more and no FAULT is ahead:", () -> {
            houseFault("fade 3;" + wide(893) + "^fade 3;", 1);
            houseFault("^x" + wide(920), 1);
            houseFault("fade 3;" + wide(892) + "^x" + wide(20), 1);
            houseFault("fade 3;" + wide(893) + "^x", 1);
            houseFault(wide(890) + "fade 3    ^    ;", 1);
            houseFault("fade ^0;" + wide(930), 2);
            RugReader x = of(SMALL);
            walkFault(x, "a 0 0;" + wide(294) + "^e 0 0;", 1);
            walkFault(x, "^zz 0 0;" + wide(400), 3);
            walkFault(x, "a 0 0;" + wide(293) + "^x" + wide(9), 1);
            sentenceFault(x, "pace<1" + wide(194) + "^)", 1);
            sentenceFault(x, "trod ^zz" + wide(300), 3);
            sentenceFault(x, "pace<1" + wide(193) + "^)" + wide(9), 1);
        });
        terms("4, 5, 24, 33", "TOKENS that begin ahead of it are read whole);", () -> {
            houseFault(wide(898) + "^abc", 1);
            houseFault(wide(899) + "^fadexyzu", 1);
            houseFault(wide(899) + "^fade3", 1);
            houseFault(wide(894) + "fade ^333", 2);
            houseFault(wide(894) + "fade ^3333", 1);
            houseFault(wide(893) + "fade  ^3333", 1);
            // The first TOKEN begins ahead of 900 and is right: what comes then is the FAULT.
            houseFault(wide(899) + "f^ade 10;", 1);
            houseFault(wide(897) + "fad^e 3;", 1);
            houseFault(wide(894) + "fade 0^03;", 1);
            RugReader x = of(SMALL);
            walkFault(x, "a 0 0;" + wide(287) + "e 1   ^111;", 2);
            walkFault(x, "a 0 0;" + wide(287) + "e 1   ^1111;", 1);
            walkFault(x, "a 0 0;" + wide(289) + "e 1 0^11;", 1);
            sentenceFault(x, wide(194) + "trod ^zzz", 3);
            sentenceFault(x, wide(194) + "pace<^1111", 1);
            sentenceFault(x, wide(194) + "pace<1^11", 1);
        });
    }

    private static void faultTwoThree() {
        terms("4, 5, 24", "2 a NUMBER that is not as told (at it;", () -> {
            String[] house = "rug 5 3 ; person a 3 1 2 ; way p 0 0 e 4 s 1 ; wall 2 1 ; door 0 0 ; fade 4 ;".split(" ");
            eachNumber(house, "999", t -> houseFault(t, 2));
            eachNumber(house, "100", t -> houseFault(t, 2));
            eachNumber("a 0 0 ; e 1 1 ;".split(" "), "999", t -> walkFault(of(SMALL), t, 2));
            eachNumber("a 0 0 ; e 1 1 ;".split(" "), "100", t -> walkFault(of(SMALL), t, 2));
        });
        terms("4, 5, 24", "X, Y without a rug, too);", () -> {
            houseFault("wall ^0 0;", 2);
            houseFault("door ^0 0;", 2);
            houseFault("way p ^0 0;", 2);
            houseFault("wall ^11 11;", 2);
            houseFault("person a 1 1 1;way p ^0 0;rug 2 2;", 2);
            houseFault("wall ^x 0;", 1);
            houseFault("wall ^0000 0;", 1);
            RugReader x = of("person a 1 1 1;");
            walkFault(x, "a ^0 0;", 2);
            walkFault(x, "a ^;", 1);
            walkFault(new RugReader(), "^a 0 0;", 3);
        });
        terms("4, 5, 24, 33", "3 a NAME told twice, not told, or of another sort,", () -> {
            houseFault("person a 1 1 1;person ^a 1 1 1;", 3);
            houseFault("rug 2 2;way p 0 0;way ^p 0 0;", 3);
            houseFault("rug 2 2;way p 0 0;person ^p 1 1 1;", 3);
            houseFault("rug 2 2;person p 1 1 1;way ^p 0 0;", 3);
            RugReader x = of(SMALL);
            walkFault(x, "^c 0 0;", 3);
            walkFault(x, "^p 0 0;", 3);
            walk(x, "b 0 0;", -1, 0);
            sentenceFault(x, "trod ^c", 3);
            sentenceFault(x, "trod ^a", 3);
            sentence(x, "trod p", 1, 0);
            // Told by a HOUSE that was, or by a text with a FAULT: not told.
            tell(x, "rug 2 2;person c 1 1 1;way q 0 0;?");
            x.house();
            walkFault(x, "^c 0 0;", 3);
            sentenceFault(x, "trod ^q", 3);
            tell(x, "rug 2 2;person c 1 1 1;way q 0 0;");
            x.house();
            walkFault(x, "^a 0 0;", 3);
            sentenceFault(x, "trod ^p", 3);
        });
        terms("4, 5", "a wall, a door told again (at Y),", () -> {
            houseFault("rug 3 3;wall 1 2;wall 1 ^2;", 3);
            houseFault("rug 3 3;door 1 2;door 1 ^2;", 3);
            houseFault("rug 3 3;wall 1 2;wall 2 1;wall 0 0;wall  001  ^002;", 3);
            houseFault("rug 12 12;door 11 11;door 11 ^11;", 3);
            houseFault("rug 12 12;wall 11 11;wall 11 ^11;", 3);
            house("rug 3 3;wall 1 2;wall 2 1;door 2 1;door 1 2;", 5, 0);
            house("rug 3 3;door 1 2;wall 1 2;", 3, 0);
        });
        terms("4, 5", "what is told once told again (at its WORD);", () -> {
            houseFault("rug 3 3;^rug 3 3;", 3);
            houseFault("rug 3 3;^rug", 3);
            houseFault("rug 3 3;fade 3;person a 1 1 1;^rug 0 0;", 3);
            houseFault("fade 3;^fade 3;", 3);
            houseFault("fade 3;^fade", 3);
            houseFault("fade 9;rug 2 2;^fade 0;", 3);
        });
    }

    /** Each NUMBER of a text once by another one: where it stands is marked. */
    private static void eachNumber(String[] tokens, String other, Consumer<String> fault) {
        for (int i = 0; i < tokens.length; i++) {
            if (Character.isDigit(tokens[i].charAt(0))) {
                String[] told = tokens.clone();
                told[i] = "^" + other;
                fault.accept(String.join(" ", told));
            }
        }
    }

    private static void faultFour() {
        terms("4, 5", "4 a seventh person,", () -> {
            StringBuilder t = new StringBuilder();
            for (int i = 0; i < 6; i++) {
                t.append("person ").append(NAMES[i]).append(" 1 1 1;");
            }
            house(t.toString(), 6, 0);
            houseFault(t + "^person h 1 1 1;", 4);
            houseFault(t + "fade 1; ^person", 4);
        });
        terms("4, 5", "WAY,", () -> {
            StringBuilder t = new StringBuilder("rug 2 2;");
            for (int i = 0; i < 6; i++) {
                t.append("way ").append(NAMES[i]).append(" 0 0;");
            }
            house(t.toString(), 7, 0);
            houseFault(t + "^way h 0 0;", 4);
            houseFault(t + "fade 1; ^way", 4);
        });
        terms("4, 5", "a 31st wall,", () -> {
            StringBuilder t = new StringBuilder("rug 12 12;");
            for (int i = 0; i < 30; i++) {
                t.append("wall ").append(i % 12).append(' ').append(i / 12).append(';');
            }
            house(t.toString(), 31, 0);
            houseFault(t + "^wall 11 11;", 4);
            houseFault(t + "fade 1; ^wall", 4);
            house(t + "door 0 0;", 32, 0);
        });
        terms("4, 5", "a ninth door,", () -> {
            StringBuilder t = new StringBuilder("rug 12 12;");
            for (int i = 0; i < 8; i++) {
                t.append("door ").append(i).append(" 11;");
            }
            house(t.toString(), 9, 0);
            houseFault(t + "^door 11 11;", 4);
            houseFault(t + "fade 1; ^door", 4);
            house(t + "wall 0 0;", 10, 0);
        });
    }

    private static void faultFourOfTexts() {
        terms("5, 24", "a 31st LINE of a WALK (at the LINE's first WORD, its DIR),", () -> {
            RugReader x = of(SMALL);
            String thirty = "a 0 0;" + "e 1 2;w 1 2;".repeat(15);
            walk(x, thirty, -1, 0);
            walkFault(x, thirty + "^e 1 1;", 4);
            walkFault(x, thirty + " \n^n", 4);
            walkFault(x, thirty + "^s 0 0;", 4);
            walkFault(x, thirty + "^;", 1);
        });
        terms("4, 5", "a 41st STEP of a WAY (at N),", () -> {
            String forty = "rug 12 12;way p 0 0 e 11 s 11 w 11 n 7";
            house(forty + ";", 2, 0);
            houseFault(forty + " n ^1;", 4);
            houseFault(forty + " n ^11;", 4);
            houseFault(forty + " n ^12;", 2);
            houseFault(forty + " n^;", 1);
            houseFault("rug 12 12;way p 0 0 e 11 s 11 w 11 n ^11;", 4);
            houseFault("rug 12 12;way p 0 0 e 10 s 11 w 10 n ^10;", 4);
            house("rug 12 12;way p 0 0 e 10 s 11 w 10 n 9;", 2, 0);
            house("rug 12 12;way p 0 0 e 11 s 11 w 11 n 7;way q 0 0 e 11 s 11 w 11 n 7;", 3, 0);
        });
        terms("5, 33", "a 21st ONE,", () -> {
            RugReader x = of(SMALL);
            sentence(x, NINETEEN, 19, 0);
            sentence(x, NINETEEN + "or pace<7", 20, 0);
            sentenceFault(x, NINETEEN + "or not ^pace<7", 4);
            sentenceFault(x, NINETEEN + "or not ^not pace<7", 4);
            sentenceFault(x, NINETEEN + "or pace<7 or ^pace<8", 4);
            sentenceFault(x, NINETEEN + "or pace<7 or ^(", 4);
            sentenceFault(x, NINETEEN + "or pace<7 or ^trod zz", 4);
            sentenceFault(x, NINETEEN + "or pace<7 or ^8", 1);
        });
        terms("5, 33", "a ninth within (at its first TOKEN);", () -> {
            RugReader x = of(SMALL);
            sentence(x, "not not not not not not not pace<3", 8, 0);
            sentenceFault(x, "not not not not not not not not ^pace<3", 4);
            sentenceFault(x, "not not not not not not not not ^not pace<3", 4);
            sentenceFault(x, "((((((((^pace<3))))))))", 4);
            sentenceFault(x, "((((((((^(pace<3)))))))))", 4);
            sentenceFault(x, "((((((((^trod p))))))))", 4);
            sentenceFault(x, "not(not(not(not(^pace<3))))", 4);
            sentence(x, "not(not(not(pace<3 and not pace<3)))", 9, 0);
            sentenceFault(x, "not(not(not(pace<3 and not not ^pace<3)))", 4);
            sentenceFault(x, "((((((((^zz))))))))", 1);
        });
    }

    private static void faultFive() {
        terms("4, 5", "5 a WAY that leaves the rug", () -> {
            for (String step : new String[] {"n", "w"}) {
                houseFault("rug 3 4;way p 0 0 " + step + " ^1;", 5);
                houseFault("rug 3 4;way p 2 3 " + step + " ^11;", 5);
            }
            house("rug 3 4;way p 2 3 n 3 w 2;", 2, 0);
            house("rug 3 4;way p 0 0 e 2 s 3;", 2, 0);
            houseFault("rug 3 4;way p 2 3 n ^4;", 5);
            houseFault("rug 3 4;way p 2 3 w ^3;", 5);
            houseFault("rug 3 4;way p 0 0 e ^3;", 5);
            houseFault("rug 3 4;way p 0 0 s ^4;", 5);
            houseFault("rug 12 12;way p 1 0 e ^11;", 5);
            houseFault("rug 12 12;way p 10 0 w ^11;", 5);
            house("rug 12 12;way p 0 0 e 11;way q 11 1 w 11;way r 11 11 n 11;way t 1 0 s 11;", 5, 0);
            houseFault("rug 3 4;way p 0 0 e 1 s 3 w 1 w ^1 x", 5);
        });
        terms("4, 5", "or goes through a wall told so far (at N;", () -> {
            houseFault("rug 3 3;wall 1 0;way p 0 0 e ^1;", 5);
            houseFault("rug 3 3;wall 1 0;way p 0 0 e ^2;", 5);
            houseFault("rug 3 3;wall 2 0;way p 0 0 e ^2;", 5);
            house("rug 3 3;wall 2 0;way p 0 0 e 1 s 2;", 3, 0);
            houseFault("rug 3 3;wall 1 2;way p 0 0 s 2 e ^2 n 2;", 5);
            house("rug 3 3;way p 0 0 e 2;wall 1 0;wall 0 0;", 4, 0);
            houseFault("rug 3 3;way p 0 0 e 2;wall 1 0;way q 0 0 e ^2;", 5);
            house("rug 3 3;door 1 0;way p 0 0 e 2;", 3, 0);
        });
        terms("4, 5", "its first TUFT on a wall: at Y).", () -> {
            houseFault("rug 3 3;wall 2 1;way p 2 ^1;", 5);
            houseFault("rug 3 3;wall 2 1;way p 2 ^1 e 0", 5);
            house("rug 3 3;wall 2 1;way p 1 1;way q 2 0;way r 1 2;", 5, 0);
            house("rug 3 3;way p 2 1;wall 2 1;", 3, 0);
            houseFault("rug 3 3;wall 2 1;way p ^3 1;", 2);
        });
    }
}
