/** Edges of term 1 and of promises 6, 7 and 18: what texts are, their FAULTS, what they tell. */
final class EdgesOfTexts {
    private static final int MIN = Integer.MIN_VALUE;
    private static final int MAX = Integer.MAX_VALUE;
    private static final String FOUR = "folk 1 1;folk 1 1;folk 1 1;folk 1 1;";
    private static final String TEN = Check.times(10, "folk 1 1;");
    private static final String[][] WORDS = {
        {"folk", "child", "work", "bound"}, {"promise", "born", "cover", "die", "year"}, {"years", "dug"}
    };

    private EdgesOfTexts() {
    }

    static void run() {
        blanksBetween();
        wordsOfLetters();
        numbersOfOneOrTwoDigits();
        longerRowOfDigits();
        tokensAsLongAsTheyGo();
        wordsOfTheSort();
        howManyNumbers();
        textThatEndsTooSoon();
        faultOneStrikesAll();
        folkNumbers();
        childNumbers();
        workNumbers();
        boundNumbers();
        deedNumbers();
        sightNumbers();
        eleventhFolk();
        seventhWork();
        fortyFirstDeed();
        ninthFact();
        firstByPlace();
        folkThatIsNotThere();
        moreThanTwoParents();
        faultsAtTheEndComeLast();
        laterOnesStrike();
        othersAreFurtherOnes();
        valleyAtItsLargest();
        valleyWithout();
        valleyOfAnotherWhat();
        noSuchValley();
        howManyDeeds();
        numbersOfDeeds();
        noSuchDeed();
        sightAtItsLargest();
        sightWithout();
        noSuchSight();
    }

    private static void right(int sort, String text) {
        Check.told(new PromiseValley(), sort, text, 0);
    }

    /** Of each number from 0 to 99 in the place between: right from least to most, else FAULT 2 there. */
    private static void range(int sort, String before, String behind, int least, int most) {
        for (int number = 0; number <= 99; number++) {
            String text = before + number + behind;
            if (number >= least && number <= most) {
                right(sort, text);
            } else {
                Check.refused(sort, text, 2, before.length());
            }
        }
    }

    private static boolean isBlank(int b) {
        return b == 10 || b == 32;
    }

    private static boolean isLetter(int b) {
        return b >= 97 && b <= 122;
    }

    private static boolean isDigit(int b) {
        return b >= 48 && b <= 57;
    }

    private static void blanksBetween() {
        Words.term(1, "blanks (10, 32) between");
        for (int b = 0; b < 256; b++) {
            String text = " " + (char) b;
            for (int sort = 0; sort < 3; sort++) {
                if (isBlank(b)) {
                    right(sort, text);
                } else {
                    Check.refused(sort, text, 1, 1);
                }
            }
        }
        right(0, "\n \nfolk\n\n1  2 \n;\n bound 3;\n\n");
        right(0, "folk1 2;bound3;folk99 9;");
        Check.refused(0, "folk 1\t2;", 1, 6);
        Check.refused(0, "folk 1 2;\r\n", 1, 9);
        Check.refused(0, "fo lk 1 2;", 1, 0);
        Check.refused(0, "bound 1 2;", 1, 8);
    }

    private static void wordsOfLetters() {
        Words.term(1, "words, rows of letters a .. z");
        for (int b = 0; b < 256; b++) {
            String text = "folk" + (char) b + "1 2;";
            if (isBlank(b) || isDigit(b)) {
                right(0, text);
            } else {
                Check.refused(0, text, 1, isLetter(b) ? 0 : 4);
            }
        }
        Check.refused(0, "FOLK 1 2;", 1, 0);
        Check.refused(0, "Folk 1 2;", 1, 0);
        Check.refused(0, "folK 1 2;", 1, 0);
    }

    private static void numbersOfOneOrTwoDigits() {
        Words.term(1, "NUMBERS, 1 or 2 digits");
        for (int b = 0; b < 256; b++) {
            String text = "folk 1 0" + (char) b + ";";
            if (isBlank(b) || isDigit(b)) {
                right(0, text);
            } else {
                Check.refused(0, text, 1, b == ';' ? 9 : 8);
            }
        }
        PromiseValley x = new PromiseValley();
        Check.told(x, 0, "folk 00 09;folk 01 0;bound 07;", 0);
        Check.due("00", x.valley(0, 10), 0);
        Check.due("09", x.valley(0, 20), 9);
        Check.due("01", x.valley(0, 11), 1);
        Check.due("07", x.valley(0, 2), 7);
    }

    private static void longerRowOfDigits() {
        Words.term(1, "(a longer row of digits is no token)");
        Check.refused(0, "folk 100 2;", 1, 5);
        Check.refused(0, "folk 000 2;", 1, 5);
        Check.refused(0, "folk 001 2;", 1, 5);
        Check.refused(0, "folk 1 009;", 1, 7);
        Check.refused(0, "bound 020;", 1, 6);
        Check.refused(0, "bound 4294967300;", 1, 6);
        Check.refused(0, "folk 1 2;123", 1, 9);
        Check.refused(1, "promise 1 2 003;", 1, 12);
        Check.refused(2, "dug 000 0;", 1, 4);
    }

    private static void tokensAsLongAsTheyGo() {
        Words.term(1, "TOKENS, as long as they go");
        Check.refused(0, "folkfolk 1 2;", 1, 0);
        Check.refused(0, "folk 12;", 1, 7);
        Check.refused(0, "bound 1;bound2;boundbound;", 1, 15);
        Check.refused(1, "yearyear;", 1, 0);
        Check.refused(0, "folk 1 2;;", 1, 9);
        Check.refused(1, ";", 1, 0);
        right(0, "folk12 3;child1 0;folk 1 1;");
    }

    private static void wordsOfTheSort() {
        Words.term(1, "1 the first byte or token with which no text goes on");
        String[][] behind = {{" 1 0;", " 1 0;", " 1 0;", " 1;"}, {" 1 1 1;", " 1 1;", " 1;", " 1;", ";"}, {" 1;", " 1 1;"}};
        for (int sort = 0; sort < 3; sort++) {
            String two = sort == 0 ? "folk 1 1;folk 1 1;" : "";
            for (int of = 0; of < 3; of++) {
                for (int k = 0; k < WORDS[of].length; k++) {
                    String word = WORDS[of][k];
                    if (sort == of) {
                        right(sort, two + word + behind[of][k]);
                    } else {
                        Check.refused(sort, two + word + behind[of][k], 1, two.length());
                    }
                    Check.refused(sort, word + "e" + behind[of][k], 1, 0);
                    String shorter = word.substring(0, word.length() - 1);
                    if (!shorter.equals("year") || sort != 1) {
                        Check.refused(sort, shorter + behind[of][k], 1, 0);
                    }
                    Check.refused(sort, word.substring(1) + behind[of][k], 1, 0);
                }
            }
        }
    }

    private static void howManyNumbers() {
        Words.term(1, "1 the first byte or token with which no text goes on");
        int[][] many = {{2, 2, 2, 1}, {3, 2, 1, 1, 0}, {1, 2}};
        for (int sort = 0; sort < 3; sort++) {
            for (int k = 0; k < WORDS[sort].length; k++) {
                String line = WORDS[sort][k] + Check.times(many[sort][k], " 1");
                Check.refused(sort, line + " 1;", 1, line.length() + 1);
                Check.refused(sort, line + " x;", 1, line.length() + 1);
                if (many[sort][k] > 0) {
                    String fewer = WORDS[sort][k] + Check.times(many[sort][k] - 1, " 1");
                    Check.refused(sort, fewer + ";", 1, fewer.length());
                    Check.refused(sort, fewer + " x;", 1, fewer.length() + 1);
                }
            }
        }
    }

    private static void textThatEndsTooSoon() {
        Words.term(1, "with places (a token's first byte; the end's)");
        String line = "folk 12 3;";
        for (int length = 1; length < line.length(); length++) {
            Check.refused(0, line.substring(0, length), 1, length < 4 ? 0 : length);
            Check.refused(0, line + line.substring(0, length), 1, length < 4 ? 10 : 10 + length);
            Check.refused(0, line.substring(0, length) + " \n", 1, length < 4 ? 0 : length + 2);
        }
        right(0, line);
        right(0, "");
    }

    private static void faultOneStrikesAll() {
        Words.term(1, "If there is none, the first by place, of one place the least");
        Check.refused(0, "bound 0;?", 1, 8);
        Check.refused(0, TEN + "folk 1 1;folk", 1, 103);
        Check.refused(0, "child 9 8;child", 1, 15);
        Check.refused(0, FOUR + "child 3 0;child 3 1;child 3 2;;", 1, 66);
        Check.refused(0, "folk 1 10 ", 1, 10);
        Check.refused(1, Check.times(41, "year;") + "100", 1, 205);
        Check.refused(2, "years 10;years 100;", 1, 15);
    }

    private static void folkNumbers() {
        Words.term(1, "AGE, 0 .. 99, STRENGTH, 0 .. 9");
        range(0, "folk ", " 0;", 0, 99);
        range(0, "folk 0 ", ";", 0, 9);
        range(0, "folk 99 ", ";", 0, 9);
    }

    private static void childNumbers() {
        Words.term(1, "of child the PARENT, if it is not less than the FOLK");
        for (int folk = 1; folk <= 9; folk++) {
            range(0, TEN + "child " + folk + " ", ";", 0, folk - 1);
        }
        Check.refused(0, TEN + "child 0 0;", 2, 98);
        for (int folk = 10; folk <= 99; folk++) {
            Check.refused(0, TEN + "child " + folk + " 0;", 2, 96);
        }
    }

    private static void workNumbers() {
        Words.term(1, "SIZE, 1 .. 30, WORTH, 0 .. 20");
        range(0, "work ", " 0;", 1, 30);
        range(0, "work 1 ", ";", 0, 20);
        range(0, "work 30 ", ";", 0, 20);
    }

    private static void boundNumbers() {
        Words.term(1, "if its SIZE is BOUND or more, 1 .. 30 (20 at first)");
        range(0, "bound ", ";", 1, 30);
        Check.refused(0, "bound 0;bound 5;", 2, 6);
        Check.refused(0, "bound 5;bound 0;", 2, 14);
        PromiseValley x = new PromiseValley();
        Check.told(x, 0, "folk 1 1;", 0);
        Check.due("at first", x.valley(0, 2), 20);
    }

    private static void deedNumbers() {
        Words.term(1, "(promise: a FOLK, a WORK, 0 .. 5, for years, 1 .. 9; born: a PARENT, STRENGTH; cover, die: a FOLK)");
        range(1, "promise ", " 0 1;", 0, 9);
        range(1, "promise 9 ", " 9;", 0, 5);
        range(1, "promise 0 5 ", ";", 1, 9);
        range(1, "born ", " 0;", 0, 9);
        range(1, "born 9 ", ";", 0, 9);
        range(1, "cover ", ";", 0, 9);
        range(1, "die ", ";", 0, 9);
    }

    private static void sightNumbers() {
        Words.term(1, "A SIGHT has YEARS, 1 .. 9 (1 at first), FACTS, at most 8, from 0 on: a WORK is DUG so far, 0 .. 30.");
        range(2, "years ", ";", 1, 9);
        range(2, "dug ", " 0;", 0, 5);
        range(2, "dug 5 ", ";", 0, 30);
        Check.refused(2, "years 10;years 5;", 2, 6);
        PromiseValley x = new PromiseValley();
        Check.told(x, 2, "dug 0 30;", 0);
        Check.due("at first", x.sight(0, 0), 1);
    }

    private static void eleventhFolk() {
        Words.term(1, "3 an 11th FOLK, a 7th WORK, a 41st DEED, a 9th FACT, at its first token.");
        right(0, TEN);
        Check.refused(0, TEN + "folk 1 1;", 3, 90);
        Check.refused(0, TEN + " \nfolk 1 1;folk 1 1;", 3, 92);
        Check.refused(0, "work 1 1;" + TEN + "bound 4;folk 99 9;", 3, 107);
        right(0, TEN + Check.times(6, "work 1 1;") + Check.times(40, "child 1 0;"));
    }

    private static void seventhWork() {
        Words.term(1, "3 an 11th FOLK, a 7th WORK");
        String six = Check.times(6, "work 1 1;");
        right(0, six);
        Check.refused(0, six + "work 1 1;", 3, 54);
        Check.refused(0, six + TEN + "work 1 1;", 3, 144);
    }

    private static void fortyFirstDeed() {
        Words.term(1, "a 41st DEED");
        String[] lines = {"promise 1 1 1;", "born 1 1;", "cover 1;", "die 1;", "year;"};
        for (String line : lines) {
            right(1, Check.times(39, "year;") + line);
            Check.refused(1, Check.times(40, "year;") + line, 3, 200);
            Check.refused(1, line + Check.times(39, "year;") + "year;", 3, 195 + line.length());
        }
        right(1, Check.times(40, "promise 9 5 9;"));
    }

    private static void ninthFact() {
        Words.term(1, "a 9th FACT");
        String eight = Check.times(8, "dug 1 1;");
        right(2, eight + "years 3;");
        Check.refused(2, eight + "dug 1 1;", 3, 64);
        Check.refused(2, "years 3;" + eight + "years 4;dug 0 0;", 3, 80);
        right(2, Check.times(60, "years 3;") + eight);
    }

    private static void firstByPlace() {
        Words.term(1, "the first by place, of one place the least: 2 a NUMBER that can't be");
        Check.refused(0, "work 31 21;", 2, 5);
        Check.refused(0, "work 30 21;work 0 0;", 2, 8);
        Check.refused(0, TEN + "folk 1 10;", 3, 90);
        Check.refused(0, TEN + "bound 0;folk 1 1;", 2, 96);
        Check.refused(0, TEN + "folk 1 1;bound 0;", 3, 90);
        // of a line with a wrong number its folk is told all the same, yet its fault comes first
        Check.refused(0, Check.times(9, "folk 1 1;") + "folk 1 10;folk 1 1;", 2, 88);
        Check.refused(1, Check.times(40, "year;") + "die 10;", 3, 200);
        Check.refused(1, Check.times(39, "year;") + "die 10;year;", 2, 199);
        Check.refused(2, Check.times(8, "dug 1 1;") + "dug 6 31;", 3, 64);
        Check.refused(2, Check.times(7, "dug 1 1;") + "dug 6 31;dug 1 1;", 2, 60);
        Check.refused(0, Check.times(6, "work 1 1;") + "work 0 21;", 3, 54);
        Check.refused(1, "promise 10 6 0;", 2, 8);
        Check.refused(1, "promise 9 6 0;", 2, 10);
        Check.refused(0, "child 10 10;", 2, 6);
    }

    private static void folkThatIsNotThere() {
        Words.term(1, "4 a FOLK that was told of (by child) and is not there");
        for (int folk = 1; folk <= 9; folk++) {
            String child = "child " + folk + " " + (folk - 1) + ";";
            Check.refused(0, Check.times(folk, "folk 1 1;") + child, 4, 9 * folk + 10);
            Check.refused(0, child + Check.times(folk, "folk 1 1;") + "\n", 4, 9 * folk + 11);
            right(0, Check.times(folk + 1, "folk 1 1;") + child);
            right(0, child + Check.times(folk + 1, "folk 1 1;"));
        }
        Check.refused(0, "child 1 0;", 4, 10);
    }

    private static void moreThanTwoParents() {
        Words.term(1, "5 one of more than two PARENTS.");
        right(0, FOUR + "child 3 0;child 3 1;");
        right(0, FOUR + "child 3 1;child 3 2;child 2 0;child 2 1;child 1 0;");
        Check.refused(0, FOUR + "child 3 0;child 3 1;child 3 2;", 5, 66);
        Check.refused(0, "child 3 2;child 3 1;child 3 0;" + FOUR + " ", 5, 67);
        String nine = "";
        for (int parent = 0; parent < 9; parent++) {
            nine += "child 9 " + parent + ";";
        }
        Check.refused(0, TEN + nine, 5, 180);
    }

    private static void faultsAtTheEndComeLast() {
        Words.term(1, "If there is none of these, at the end's place, of a VALLEY: 4");
        Check.refused(0, "child 9 8;child 3 3;", 2, 18);
        Check.refused(0, "child 9 8;bound 0;", 2, 16);
        Check.refused(0, FOUR + "child 3 0;child 3 1;child 3 2;bound 31;", 2, 72);
        Check.refused(0, "child 3 0;child 3 1;child 3 2;" + Check.times(7, "work 1 1;"), 3, 84);
        Check.refused(0, FOUR + "child 3 0;child 3 1;child 3 2;child 9 8;", 4, 76);
        // lives and sights may tell of what is nowhere there
        right(1, "die 9;promise 9 5 9;");
        right(2, "dug 5 30;");
    }

    private static void laterOnesStrike() {
        Words.term(1, "Later ones strike (bound, years)");
        PromiseValley x = new PromiseValley();
        Check.told(x, 0, "bound 30;bound 1;", 0);
        Check.told(x, 0, "bound 1;work 3 3;bound 30;", 1);
        Check.told(x, 2, "years 9;dug 0 0;years 1;", 0);
        Check.told(x, 2, "years 1;years 9;", 1);
        Check.due("bound", x.valley(0, 2), 1);
        Check.due("bound", x.valley(1, 2), 30);
        Check.due("years", x.sight(0, 0), 1);
        Check.due("years", x.sight(1, 0), 9);
    }

    private static void othersAreFurtherOnes() {
        Words.term(1, "but all others, which are further ones.");
        PromiseValley x = new PromiseValley();
        Check.told(x, 0, "folk 5 5;folk 5 5;folk 6 6;work 3 3;work 3 3;child 2 0;child 2 1;", 0);
        Check.due("folk", x.valley(0, 0), 3);
        Check.due("works", x.valley(0, 1), 2);
        Check.due("parents", x.valley(0, 32), 3);
        Check.told(x, 1, "year;year;die 1;die 1;", 0);
        Check.due("deeds", x.deed(0, -1, 0), 4);
        Check.told(x, 2, "dug 1 1;dug 1 1;dug 1 2;", 0);
        Check.due("facts", x.sight(0, 1), 3);
        // the same parent told again is no further one: bits
        Check.told(x, 0, "folk 5 5;folk 5 5;child 1 0;child 1 0;child 1 0;", 1);
        Check.due("one parent", x.valley(1, 31), 1);
    }

    private static void looks(PromiseValley x, int valley, int[] want) {
        for (int what = -3; what < 77; what++) {
            int due = what >= 0 && what < want.length ? want[what] : -1;
            Check.due("valley(" + valley + ", " + what + ")", x.valley(valley, what), due);
        }
    }

    /** A row of answers: all are NONE that are not told here, as what and answer. */
    private static int[] answers(int... whatAndWant) {
        int[] all = new int[80];
        java.util.Arrays.fill(all, -1);
        for (int i = 0; i + 1 < whatAndWant.length; i += 2) {
            all[whatAndWant[i]] = whatAndWant[i + 1];
        }
        return all;
    }

    private static void valleyAtItsLargest() {
        Words.promise(6, "10 + f, 20 + f, 30 + f: AGE, STRENGTH, PARENTS of a FOLK (bits), 40 + f: GRANDPARENTS (bits), "
            + "50 + w, 60 + w: SIZE, WORTH of a WORK.");
        StringBuilder text = new StringBuilder();
        int[] want = answers(0, 10, 1, 6, 2, 30);
        for (int f = 0; f < 10; f++) {
            text.append("folk ").append(90 + f).append(' ').append(9 - f).append(';');
            want[10 + f] = 90 + f;
            want[20 + f] = 9 - f;
            want[30 + f] = f == 0 ? 0 : f == 1 ? 1 : 3 << (f - 2);
            want[40 + f] = f < 2 ? 0 : f == 2 ? 1 : f == 3 ? 3 : 7 << (f - 4);
        }
        for (int f = 1; f < 10; f++) {
            text.append("child ").append(f).append(' ').append(f - 1).append(';');
            if (f > 1) {
                text.append("child ").append(f).append(' ').append(f - 2).append(';');
            }
        }
        for (int w = 0; w < 6; w++) {
            text.append("work ").append(30 - w).append(' ').append(20 - w).append(';');
            want[50 + w] = 30 - w;
            want[60 + w] = 20 - w;
        }
        PromiseValley x = new PromiseValley();
        Check.told(x, 0, text + "bound 30;", 0);
        looks(x, 0, want);
        x = new PromiseValley();
        Check.told(x, 0, "", 0);
        Check.told(x, 0, text + "bound 30;", 1);
        looks(x, 1, want);
    }

    private static void valleyWithout() {
        Words.promise(6, "NONE: there is none such (of any)");
        PromiseValley x = new PromiseValley();
        Check.told(x, 0, TEN + Check.times(6, "work 9 9;"), 0);
        Check.due("in its place", Check.tell(x, 0, 0, ""), 0);
        looks(x, 0, answers(0, 0, 1, 0, 2, 20));
        Check.told(x, 0, "folk 0 0;work 1 0;", 1);
        looks(x, 1, answers(0, 1, 1, 1, 2, 20, 10, 0, 20, 0, 30, 0, 40, 0, 50, 1, 60, 0));
        x = new PromiseValley();
        Check.told(x, 0, Check.times(9, "folk 7 3;") + Check.times(5, "work 8 4;"), 0);
        int[] want = answers(0, 9, 1, 5, 2, 20);
        for (int f = 0; f < 9; f++) {
            want[10 + f] = 7;
            want[20 + f] = 3;
            want[30 + f] = 0;
            want[40 + f] = 0;
        }
        for (int w = 0; w < 5; w++) {
            want[50 + w] = 8;
            want[60 + w] = 4;
        }
        looks(x, 0, want);
    }

    private static void valleyOfAnotherWhat() {
        Words.promise(6, "or for another what.");
        PromiseValley x = new PromiseValley();
        Check.told(x, 0, TEN + Check.times(6, "work 9 9;"), 0);
        for (int what : new int[] {MIN, MIN + 9, MIN + 10, MIN + 59, MIN + 60, -1000, -10, -1, 3, 9, 56, 59, 66, 70, 1000, MAX - 1, MAX}) {
            Check.due("valley(0, " + what + ")", x.valley(0, what), -1);
        }
    }

    private static void noSuchValley() {
        Words.promise(6, "NONE: there is none such (of any)");
        PromiseValley x = new PromiseValley();
        for (int many = 0; many <= 2; many++) {
            for (int valley : new int[] {MIN, -2, -1, many, many + 1, 2, 3, MAX}) {
                for (int what : new int[] {0, 1, 2, 10, 60}) {
                    Check.due("valley(" + valley + ", " + what + ") of " + many, x.valley(valley, what), -1);
                }
            }
            Check.tell(x, 0, -1, TEN + "work 9 9;");
        }
    }

    private static void howManyDeeds() {
        Words.promise(7, "How many DEEDS (k NONE, what 0)");
        for (int many : new int[] {0, 1, 39, 40}) {
            PromiseValley x = new PromiseValley();
            Check.told(x, 1, Check.times(many, "year;"), 0);
            Check.due("deed(0, -1, 0)", x.deed(0, -1, 0), many);
            for (int what : new int[] {-1, 1, 2, 3, 4, MIN, MAX}) {
                Check.due("deed(0, -1, " + what + ") of " + many, x.deed(0, -1, what), -2);
            }
        }
    }

    private static void numbersOfDeeds() {
        Words.promise(7, "1, 2, 3: its numbers (NONE without).");
        PromiseValley x = new PromiseValley();
        Check.told(x, 1, "promise 0 0 1;promise 9 5 9;born 0 0;born 9 9;cover 0;cover 9;die 0;die 9;year;", 0);
        int[][] want = {{0, 0, 0, 1}, {0, 9, 5, 9}, {1, 0, 0, -1}, {1, 9, 9, -1}, {2, 0, -1, -1}, {2, 9, -1, -1},
            {3, 0, -1, -1}, {3, 9, -1, -1}, {4, -1, -1, -1}};
        for (int k = 0; k < want.length; k++) {
            for (int what = 0; what < 4; what++) {
                Check.due("deed(0, " + k + ", " + what + ")", x.deed(0, k, what), want[k][what]);
            }
        }
    }

    private static void noSuchDeed() {
        Words.promise(7, "-2: there is none such (of either), or for another what.");
        PromiseValley x = new PromiseValley();
        Check.told(x, 1, Check.times(40, "die 1;"), 0);
        Check.told(x, 1, "die 2;", 1);
        Check.due("deed(0, 39, 1)", x.deed(0, 39, 1), 1);
        Check.due("deed(1, 0, 1)", x.deed(1, 0, 1), 2);
        for (int k : new int[] {MIN, -3, -2, 40, 41, MAX}) {
            Check.due("deed(0, " + k + ", 0)", x.deed(0, k, 0), -2);
        }
        Check.due("deed(1, 1, 0)", x.deed(1, 1, 0), -2);
        for (int what : new int[] {MIN, -2, -1, 4, 5, MAX}) {
            Check.due("deed(0, 0, " + what + ")", x.deed(0, 0, what), -2);
        }
        for (int life : new int[] {MIN, -2, -1, 2, 3, MAX}) {
            Check.due("deed(" + life + ", 0, 0)", x.deed(life, 0, 0), -2);
            Check.due("deed(" + life + ", -1, 0)", x.deed(life, -1, 0), -2);
        }
        Check.due("in its place", Check.tell(x, 1, 0, "year;"), 0);
        Check.due("what was there is gone", x.deed(0, 1, 0), -2);
    }

    private static void sights(PromiseValley x, int sight, int[] want) {
        for (int what = -3; what < 35; what++) {
            int due = what >= 0 && what < want.length ? want[what] : -1;
            Check.due("sight(" + sight + ", " + what + ")", x.sight(sight, what), due);
        }
        for (int what : new int[] {MIN, MIN + 9, MIN + 19, MIN + 20, MAX}) {
            Check.due("sight(" + sight + ", " + what + ")", x.sight(sight, what), -1);
        }
    }

    private static void sightAtItsLargest() {
        Words.promise(18, "what 0: YEARS, 1: FACTS, 10 + k, 20 + k: of a FACT the WORK, how far.");
        PromiseValley x = new PromiseValley();
        StringBuilder text = new StringBuilder("years 9;");
        int[] want = answers(0, 9, 1, 8);
        for (int k = 0; k < 8; k++) {
            text.append("dug ").append(k % 6).append(' ').append(30 - k).append(';');
            want[10 + k] = k % 6;
            want[20 + k] = 30 - k;
        }
        Check.told(x, 2, text.toString(), 0);
        Check.told(x, 2, text.toString(), 1);
        sights(x, 0, want);
        sights(x, 1, want);
    }

    private static void sightWithout() {
        Words.promise(18, "NONE: there is none such (of either), or for another what.");
        PromiseValley x = new PromiseValley();
        Check.told(x, 2, "years 9;" + Check.times(8, "dug 5 30;"), 0);
        Check.due("in its place", Check.tell(x, 2, 0, ""), 0);
        sights(x, 0, answers(0, 1, 1, 0));
        Check.told(x, 2, "dug 0 0;", 1);
        sights(x, 1, answers(0, 1, 1, 1, 10, 0, 20, 0));
    }

    private static void noSuchSight() {
        Words.promise(18, "NONE: there is none such (of either)");
        PromiseValley x = new PromiseValley();
        for (int many = 0; many <= 2; many++) {
            for (int sight : new int[] {MIN, -2, -1, many, many + 1, 2, MAX}) {
                for (int what : new int[] {0, 1, 10, 20}) {
                    Check.due("sight(" + sight + ", " + what + ") of " + many, x.sight(sight, what), -1);
                }
            }
            Check.tell(x, 2, -1, "dug 1 1;");
        }
    }
}
