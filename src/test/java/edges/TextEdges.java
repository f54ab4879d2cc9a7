/** Section 1: the text, what may stand in it, its FAULTS, the letter of each. */
final class TextEdges extends Edge {
    private static final String ALL_EIGHT = "0,1,2,3,4,5,6,7";

    private TextEdges() {
    }

    static void run() {
        letters240();
        clauseR();
        clauseT();
        clauseN();
        sixPersons();
        figures();
        wordIsOneLetter();
        blanks();
        firstLetter();
        endAtLength();
        leastOfSeveral();
        fault1();
        fault2();
        fault3();
        fault4();
        emptyText();
    }

    private static void letters240() {
        of("1", "THE HOSTEL is told in a text (240 letters at most), letter by letter: clauses:");
        reads("r8;" + times(" ", 234) + "n7;", 8, "-1@0:7 ");
        reads("r8;" + times(" ", 233) + "n7;", 8, "-1@0:7 ");
        // The last ';' would be the 241st letter: it is refused, so the text ends ahead of it.
        Run x = new Run().tell("r8;" + times(" ", 235) + "n7");
        due(x.feed(';'), FULL);
        due(x.hostel(), -11);
        due(x.fault(), 240);
    }

    private static void clauseR() {
        of("1", "'r' N ';' (ROOMS 0 to N less 1, N 1 .. 8; first, once)");
        for (int n = 1; n <= 8; n++) {
            Run x = reads("r" + n + ";", n, "");
            due(x.room(0, 0), NONE);
            due(x.room(n - 1, 0), NONE);
            due(x.room(n, 0), UNKNOWN);
            due(x.room(-1, 0), UNKNOWN);
            due(x.told(6), (1 << n) - 1);
        }
        faulty("r0;", 2, 1);
        faulty("r9;", 2, 1);
        faulty("n0;r1;", 1, 0);
        faulty("r1;n0;r1;", 3, 6);
        faulty("r;", 1, 1);
        faulty("r1", 1, 2);
    }

    private static void clauseT() {
        of("1", "'t' T {',' R} ';' (a PERSON, who sits in ROOM T, and LIKES ROOMS R, the first most; 0 to 8 of them)");
        reads("r8;t0;", 8, "0@0: ");
        reads("r8;t7;", 8, "7@0: ");
        reads("r8;t3,5;", 8, "3@0:5 ");
        Run x = reads("r8;t3,6,5;", 8, "3@0:65 ");
        due(x.person(0, 3), 6);
        x = reads("r8;t0,7,6,5,4,3,2,1,0;", 8, "0@0:76543210 ");
        due(x.person(0, 1), 8);
        due(x.likes(0, 7), 0);
        // Behind eight there is no ROOM that is not LIKED already.
        for (int r = 0; r < 8; r++) {
            faulty("r8;t0," + ALL_EIGHT + "," + r + ";", 4, 22);
        }
        faulty("r8;t0," + ALL_EIGHT + ",8;", 2, 22);
        faulty("r8;t;", 1, 4);
    }

    private static void clauseN() {
        of("1", "'n' R {',' R} ';' (a PERSON who has just come, and LIKES 1 to 8).");
        faulty("r8;n;", 1, 4);
        faulty("r8;n,0;", 1, 4);
        reads("r8;n0;", 8, "-1@0:0 ");
        reads("r8;n7;", 8, "-1@0:7 ");
        Run x = reads("r8;n" + ALL_EIGHT + ";", 8, "-1@0:01234567 ");
        due(x.person(0, 0), NONE);
        due(x.person(0, 1), 8);
        for (int r = 0; r < 8; r++) {
            faulty("r8;n" + ALL_EIGHT + "," + r + ";", 4, 20);
        }
        faulty("r8;n" + ALL_EIGHT + ",8;", 2, 20);
    }

    private static void sixPersons() {
        of("1", "6 PERSONS at most, of both together.");
        for (int sitting = 0; sitting <= 6; sitting++) {
            StringBuilder text = new StringBuilder("r8;");
            StringBuilder due = new StringBuilder();
            for (int p = 0; p < 6; p++) {
                text.append(p < sitting ? "t" : "n").append(p).append(';');
                due.append(p < sitting ? "" + p : "-1").append('@').append(p).append(':');
                due.append(p < sitting ? "" : "" + p).append(' ');
            }
            reads(text.toString(), 8, due.toString());
            faulty(text + "t7;", 3, 21);
            faulty(text + "n7;", 3, 21);
        }
        reads("r8;n0;n0;n0;n0;n0;", 8, "-1@0:0 -1@1:0 -1@2:0 -1@3:0 -1@4:0 ");
    }

    private static void figures() {
        of("1", "NUMBERS have one to three figures;");
        reads("r8;t7,6;n5;", 8, "7@0:6 -1@1:5 ");
        reads("r08;t07,06;n05;", 8, "7@0:6 -1@1:5 ");
        reads("r008;t007,006;n005;", 8, "7@0:6 -1@1:5 ");
        faulty("r0008;", 2, 1);
        faulty("r8;t0007;", 2, 4);
        faulty("r8;t7,0006;", 2, 6);
        faulty("r8;n0005;", 2, 4);
        faulty("r;", 1, 1);
        faulty("r8;t7,;", 1, 6);
        // As an int these would be 1 and 0 by wrap-around.
        faulty("r4294967297;", 2, 1);
        faulty("r8;n4294967296;", 2, 4);
        faulty("r18446744073709551617;", 2, 1);
        faulty("r" + times("0", 238) + "1", 2, 1);
    }

    private static void wordIsOneLetter() {
        of("1", "a word is one letter;");
        faulty("rr8;", 1, 1);
        faulty("r8;tt0;", 1, 4);
        faulty("r8;nn0;", 1, 4);
        faulty("r8;tn0;", 1, 4);
        faulty("r8;;", 1, 3);
        faulty("r8;t0,,1;", 1, 6);
        faulty("room8;", 1, 1);
    }

    private static void blanks() {
        of("1", "blanks (32) may stand anywhere but within NUMBERS.");
        String text = "r8;t7,6,5;n4,3;";
        String due = "7@0:65 -1@1:43 ";
        for (int i = 0; i <= text.length(); i++) {
            reads(text.substring(0, i) + " " + text.substring(i), 8, due);
            reads(text.substring(0, i) + "   " + text.substring(i), 8, due);
        }
        reads("  r  8  ;  t  7  ,  6  ,  5  ;  n  4  ,  3  ;  ", 8, due);
        faulty("r1 8;", 1, 3);
        faulty("r00 1 8;", 2, 1);
        faulty("r8;t0 7;", 1, 6);
        faulty("r8;t7,0 6;", 1, 8);
        faulty("r8;n0  5;", 1, 7);
        int[] others = {0, 9, 10, 13, 31, 33, 95, 160, 255};
        for (int other : others) {
            faulty((char) other + "r8;", 1, 0);
            faulty("r8;" + (char) other + "n0;", 1, 3);
            faulty("r8;n0;" + (char) other, 1, 6);
        }
    }

    private static void firstLetter() {
        of("1", "FAULTS, at the first letter that has one");
        faulty("r8;n8;x", 2, 4);
        faulty("r8;x;n8;", 1, 3);
        faulty("r8;n0,0;n9;", 4, 6);
        faulty("r8;n0;r8;n0,0;", 3, 6);
        faulty("r9x", 2, 1);
        faulty("r8;t0;t0,9;", 4, 7);
        faulty("r8;t9,9,9;", 2, 4);
        faulty("r8;n12345", 2, 4);
    }

    private static void endAtLength() {
        of("1", "(the end at the text's length),");
        String text = "r8;t7,6,5;n4,3;";
        for (int i = 1; i < text.length(); i++) {
            String head = text.substring(0, i);
            boolean whole = head.endsWith(";");
            for (int more = 0; more <= 2; more++) {
                String told = head + times(" ", more);
                Run x = new Run().tell(told);
                due(x.hostel(), whole ? (i > 10 ? 2 : i > 3 ? 1 : 0) : -11);
                due(x.fault(), whole ? NONE : told.length());
            }
        }
        endOfShorterText("r8;n0;", "r8;n0");
        endOfShorterText("r8;n07;", "r8;n0");
        endOfShorterText("r8;n0,7;", "r8;n0,");
        endOfShorterText("r8;n0,7;", "r8;n0");
        endOfShorterText("r8;t7;", "r8;t");
        endOfShorterText("r08;", "r");
        endOfShorterText("r08;", "r8");
    }

    /** What stood behind the end in a longer text that came before does not count. */
    private static void endOfShorterText(String longer, String shorter) {
        Run x = new Run().tell(longer);
        x.hostel();
        x.tell(shorter);
        due(x.hostel(), -11);
        due(x.fault(), shorter.length());
    }

    private static void leastOfSeveral() {
        of("1", "of these the least:");
        // Four figures (2) and a ROOM in which one sits, or that is LIKED already (4).
        faulty("r8;t1;t0001;", 2, 7);
        faulty("r8;n1,0001;", 2, 6);
        // It cannot stand there (1) and is 'r' again, or a seventh PERSON (3).
        faulty("r8;tr", 1, 4);
        faulty("r8;n0r8;", 1, 5);
        faulty("r8r8;", 1, 2);
        faulty("r8;n0;n0;n0;n0;n0;n0n0;", 1, 20);
        faulty("r8;n0;n0;n0;n0;n0;n0,t0;", 1, 21);
        // A letter that is no word, where a seventh PERSON would be too many.
        faulty("r8;n0;n0;n0;n0;n0;n0;x", 1, 21);
        faulty("r8;n0;n0;n0;n0;n0;n0;0", 1, 21);
    }

    /** Each letter that may not follow the head is a fault 1 there. */
    private static void onlyThese(String head, String may) {
        for (int letter = 0; letter <= 255; letter++) {
            if (may.indexOf(letter) < 0) {
                faulty(head + (char) letter, 1, head.length());
                faulty(head + (char) letter + "0;", 1, head.length());
            }
        }
    }

    private static void fault1() {
        of("1", "1 it cannot stand there (a letter that is no word, another word first than 'r').");
        String figures = "0123456789 ";
        onlyThese("", "r ");
        onlyThese("r", figures);
        onlyThese("r8", figures + ";");
        onlyThese("r8 ", "; ");
        onlyThese("r8;", "rtn ");
        onlyThese("r8;t", figures);
        onlyThese("r8;t0", figures + ",;");
        onlyThese("r8;t0 ", ",; ");
        onlyThese("r8;t0,", figures);
        onlyThese("r8;t0,1", figures + ",;");
        onlyThese("r8;n", figures);
        onlyThese("r8;n0", figures + ",;");
        onlyThese("r8;n0,", figures);
        onlyThese("r8;n0;", "rtn ");
    }

    private static void fault2() {
        of("1", "2 a NUMBER of four figures or more; a ROOM that there is not; N out of its bounds (at its first).");
        String[] bounds = {"0", "00", "000", "9", "09", "009", "10", "18", "80", "100", "999", "0001", "9999", "00000008"};
        for (String n : bounds) {
            faulty("r" + n + ";", 2, 1);
            faulty(" r  " + n + " x", 2, 4);
            faulty("r" + n, 2, 1);
        }
        for (int n = 1; n <= 8; n++) {
            reads("r" + n + ";t" + (n - 1) + "," + (n - 1) + ";", n, (n - 1) + "@0:" + (n - 1) + " ");
            faulty("r" + n + ";t" + n + ";", 2, 4);
            faulty("r" + n + ";t0," + n + ";", 2, 6);
            faulty("r" + n + ";n" + n + ";", 2, 4);
            faulty("r" + n + ";n0,  00" + n + ";", 2, 8);
        }
        String[] rooms = {"8", "9", "10", "70", "100", "999", "0000", "1111", "00000000"};
        for (String r : rooms) {
            faulty("r8;t" + r + ";", 2, 4);
            faulty("r8;t7,  " + r + " ;", 2, 8);
            faulty("r8;n" + r, 2, 4);
            faulty("r8;n7," + r, 2, 6);
        }
    }

    private static void fault3() {
        of("1", "3 'r' again, a seventh PERSON (at it).");
        faulty("r8;r8;", 3, 3);
        faulty("r8;r", 3, 3);
        faulty("r8;  r0", 3, 5);
        faulty("r8;n0;t1;r8;", 3, 9);
        faulty("r8;n0;n0;n0;n0;n0;n0;r", 3, 21);
        faulty("r8;n0;n0;n0;n0;n0;n0;n", 3, 21);
        faulty("r8;n0;n0;n0;n0;n0;n0;t9", 3, 21);
        faulty("r8;n0;n0;n0;n0;n0;n0;  tx", 3, 23);
    }

    private static void fault4() {
        of("1", "4 a ROOM in which one sits already; one that is LIKED already by this PERSON (at its first).");
        faulty("r8;t0;t0;", 4, 7);
        faulty("r8;t7;n7;t  007,x", 4, 12);
        faulty("r8;t0,1;t1,0;t2;t3;t4;t1", 4, 23);
        faulty("r8;n0,0;", 4, 6);
        faulty("r8;n0,1,00;", 4, 8);
        faulty("r8;n7,6, 007 ;", 4, 9);
        faulty("r8;t0,1,1;", 4, 8);
        faulty("r8;t0,0,0;", 4, 8);
        // No faults: where he sits himself, what another LIKES, where another sits.
        reads("r8;t0,0;t1,0;n0,1;n0,1;", 8, "0@0:0 1@1:0 -1@2:01 -1@3:01 ");
        reads("r8;n0;t0;n0;", 8, "-1@0:0 0@1: -1@2:0 ");
    }

    private static void emptyText() {
        of("1", "An empty text (or one of blanks alone): no HOSTEL.");
        int[] lengths = {0, 1, 2, 239, 240};
        for (int n : lengths) {
            Run x = reads(times(" ", n), 0, "");
            due(x.room(0, 0), UNKNOWN);
            due(x.drift(1), NOT);
            due(x.told(6), 0);
            x = new Run("r3;t0,1;n2;");
            x.tell(times(" ", n));
            due(x.hostel(), 0);
            due(x.fault(), NONE);
            due(x.told(0), 0);
            due(x.told(1), 0);
            due(x.person(0, 0), UNKNOWN);
            due(x.drift(1), NOT);
        }
    }
}
