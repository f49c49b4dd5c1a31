/** Promises 1 to 7, 18 and 33 to 35: the tape, texts and their faults, what they tell, images. */
public final class TextsTest {
    private TextsTest() {
    }

    public static void main(String[] args) {
        newObject();
        feedAndEnd();
        textNumbers();
        tapeIsEmptyBehindRefusedText();
        imageOfRefusedText();
        faultOfForm();
        faultOfNumbers();
        faultOfMany();
        faultsOfFamilies();
        whichFaultCounts();
        valleyTold();
        deedsTold();
        sightTold();
        counts();
        images();
        Check.finish();
    }

    private static void newObject() {
        PromiseValley x = new PromiseValley();
        for (int sort = 0; sort < 3; sort++) {
            Check.due("count of a new object", x.count(sort), 0);
        }
        Check.due("valley(0, 0)", x.valley(0, 0), -1);
        Check.due("deed(0, -1, 0)", x.deed(0, -1, 0), -2);
        Check.due("sight(0, 0)", x.sight(0, 0), -1);
        Check.due("stop(0, 0)", x.stop(0, 0), -1);
        Check.due("fault(0)", x.fault(0), 0);
        Check.due("fault(1)", x.fault(1), -1);
        Check.due("end(0)", x.end(0), 0);
        Check.due("end(1)", x.end(1), -1);
        for (int k = -1; k < 4; k++) {
            Check.due("again of a new object", x.again(k), false);
        }
    }

    private static void feedAndEnd() {
        PromiseValley x = new PromiseValley();
        for (int i = 1; i <= 30; i++) {
            Check.due("feed " + i, x.feed(0, 0, 0, 0, 0), 20 * i);
        }
        Check.due("feed beyond 600", x.feed(0, 0, 0, 0, 0), -1);
        Check.due("end(601)", x.end(601), -1);
        Check.due("end(-1)", x.end(-1), -1);
        Check.due("end(600)", x.end(600), 600);
        Check.due("end(581)", x.end(581), 581);
        Check.due("feed to 601", x.feed(0, 0, 0, 0, 0), -1);
        Check.due("end(581) still", x.end(581), 581);
        Check.due("end(582)", x.end(582), -1);
        Check.due("end(580)", x.end(580), 580);
        Check.due("feed to 600", x.feed(0, 0, 0, 0, 0), 600);
        Check.due("end(0)", x.end(0), 0);
        // "boun" "d 7;" and twelve blanks: of each number the highest byte first
        int blanks = 0x20202020;
        Check.due("feed bound", x.feed(0x626f756e, 0x6420373b, blanks, blanks, 0x0a0a0a0a), 20);
        Check.due("text bound", x.text(0, -1), 0);
        Check.due("bound", x.valley(0, 2), 7);
        Check.due("the tape was taken", x.end(1), -1);
        // the byte 255 comes of a number below 0
        Check.due("feed -1", x.feed(-1, 0, 0, 0, 0), 20);
        Check.due("end(1)", x.end(1), 1);
        Check.due("text of byte 255", x.text(0, -1), -1);
        Check.due("its fault", x.fault(0), 1);
        Check.due("its place", x.fault(1), 0);
        Check.due("taken all the same", x.end(1), -1);
    }

    private static void textNumbers() {
        for (int sort = 0; sort < 3; sort++) {
            PromiseValley x = new PromiseValley();
            Check.due("in the place of none", Check.tell(x, sort, 0, ""), -2);
            Check.due("first", Check.tell(x, sort, -1, ""), 0);
            Check.due("in the place of the next", Check.tell(x, sort, 1, ""), -2);
            Check.due("second", Check.tell(x, sort, -1, ""), 1);
            Check.due("third", Check.tell(x, sort, -1, ""), -2);
            Check.due("place 0", Check.tell(x, sort, 0, ""), 0);
            Check.due("place 1", Check.tell(x, sort, 1, ""), 1);
            Check.due("place 2", Check.tell(x, sort, 2, ""), -2);
            Check.due("place -2", Check.tell(x, sort, -2, ""), -2);
            Check.due("count", x.count(sort), 2);
        }
        PromiseValley x = new PromiseValley();
        Check.due("wrong text", Check.tell(x, 0, -1, "bound 0;"), -1);
        Check.due("its fault", x.fault(0), 2);
        Check.tape(x, "bound 4;");
        Check.due("sort 3", x.text(3, -1), -2);
        Check.due("fault of no text", x.fault(0), 0);
        Check.due("place of no text", x.fault(1), -1);
        Check.due("sort -1", x.text(-1, -1), -2);
        Check.due("no text was read", x.count(0), 0);
        Check.due("a text", Check.tell(x, 0, -1, "bound 4;"), 0);
        Check.due("bound", x.valley(0, 2), 4);
        Check.due("a fault in its place", Check.tell(x, 0, 0, "bound 31;"), -1);
        Check.due("the old one stays", x.valley(0, 2), 4);
        Check.due("count stays", x.count(0), 1);
        Check.due("fault(2)", x.fault(2), -1);
        Check.due("fault(-1)", x.fault(-1), -1);
        Check.due("in its place", Check.tell(x, 0, 0, "bound 6;"), 0);
        Check.due("the new one", x.valley(0, 2), 6);
    }

    private static void tapeIsEmptyBehindRefusedText() {
        int[] wrongPlaces = {2, 3, -2, Integer.MIN_VALUE, Integer.MAX_VALUE};
        for (int sort = 0; sort < 3; sort++) {
            for (int many = 0; many <= 2; many++) {
                for (int at = many; at < 2; at++) {
                    takenUnread(sort, at, many);
                }
                for (int at : wrongPlaces) {
                    takenUnread(sort, at, many);
                }
            }
            takenUnread(sort, -1, 2);
        }
        for (int sort : new int[] {-1, 3, -2, Integer.MIN_VALUE, Integer.MAX_VALUE}) {
            for (int at = -2; at <= 2; at++) {
                takenUnread(sort, at, 0);
            }
        }
    }

    /** Behind that many texts of the sort text() is due to answer -2; the tape, whatever it held, is empty then. */
    private static void takenUnread(int sort, int at, int many) {
        PromiseValley x = new PromiseValley();
        for (int k = 0; k < many; k++) {
            Check.told(x, sort, "", k);
        }
        String call = "text(" + sort + ", " + at + ") with " + many;
        for (String told : new String[] {"", "?", "bound 4;", Check.times(600, " ")}) {
            Check.tape(x, told);
            Check.due(call, x.text(sort, at), -2);
            Check.due("fault(0) behind " + call, x.fault(0), 0);
            Check.due("fault(1) behind " + call, x.fault(1), -1);
            Check.due("end(1) behind " + call, x.end(1), -1);
            Check.due("feed behind " + call, x.feed(0, 0, 0, 0, 0), 20);
        }
        Check.due("count behind " + call, x.count(sort), sort >= 0 && sort < 3 ? many : -2);
    }

    private static void imageOfRefusedText() {
        PromiseValley x = new PromiseValley();
        Check.tape(x, "bound 4;");
        Check.due("image(0)", x.image(0), true);
        Check.due("none such", x.text(0, 0), -2);
        Check.due("image(1)", x.image(1), true);
        Check.due("again(0)", x.again(0), true);
        Check.due("the tape of image 0", x.end(8), 8);
        Check.due("a text", x.text(0, -1), 0);
        Check.due("bound", x.valley(0, 2), 4);
        Check.due("again(1)", x.again(1), true);
        Check.due("the tape of image 1", x.end(1), -1);
        Check.due("count of image 1", x.count(0), 0);
    }

    private static void faultOfForm() {
        Check.refused(0, ";", 1, 0);
        Check.refused(0, " \n;", 1, 2);
        Check.refused(0, "folk", 1, 4);
        Check.refused(0, "folk  ", 1, 6);
        Check.refused(0, "folk 1", 1, 6);
        Check.refused(0, "folk 1 2", 1, 8);
        Check.refused(0, "folk 1 2;child", 1, 14);
        Check.refused(0, "folk 1 2;;", 1, 9);
        Check.refused(0, "folk 1 2 3;", 1, 9);
        Check.refused(0, "folk 1;", 1, 6);
        Check.refused(0, "folks 1 2;", 1, 0);
        Check.refused(0, "fol 1 2;", 1, 0);
        Check.refused(0, "Folk 1 2;", 1, 0);
        Check.refused(0, "folk 1 2;year;", 1, 9);
        Check.refused(0, "folk 100 2;", 1, 5);
        Check.refused(0, "folk 001 2;", 1, 5);
        Check.refused(0, "folk 1 2x;", 1, 8);
        Check.refused(0, "folk 1 -2;", 1, 7);
        Check.refused(0, "folk\t1 2;", 1, 4);
        Check.refused(0, "folk 1 2;\r", 1, 9);
        Check.refused(0, "bound 1 2;", 1, 8);
        Check.refused(0, "1;", 1, 0);
        Check.refused(1, "years;", 1, 0);
        Check.refused(1, "year", 1, 4);
        Check.refused(1, "promise 1 1;", 1, 11);
        Check.refused(1, "born 1;", 1, 6);
        Check.refused(1, "die;", 1, 3);
        Check.refused(1, "cover 1 1;", 1, 8);
        Check.refused(1, "folk 1 1;", 1, 0);
        Check.refused(2, "year 1;", 1, 0);
        Check.refused(2, "years;", 1, 5);
        Check.refused(2, "dug 1;", 1, 5);
        Check.refused(2, "dug 1 222;", 1, 6);
        PromiseValley x = new PromiseValley();
        Check.told(x, 0, "\n folk1 2;work\n09 07  ;bound 30;\n", 0);
        Check.due("age", x.valley(0, 10), 1);
        Check.due("size", x.valley(0, 50), 9);
        Check.due("worth", x.valley(0, 60), 7);
    }

    private static void faultOfNumbers() {
        Check.refused(0, "folk 99 10;", 2, 8);
        Check.refused(0, "work 0 1;", 2, 5);
        Check.refused(0, "work 31 1;", 2, 5);
        Check.refused(0, "work 1 21;", 2, 7);
        Check.refused(0, "work 31 21;", 2, 5);
        Check.refused(0, "bound 0;", 2, 6);
        Check.refused(0, "bound 31;", 2, 6);
        Check.refused(0, "child 10 1;", 2, 6);
        Check.refused(0, "child 1 1;", 2, 8);
        Check.refused(0, "child 1 12;", 2, 8);
        Check.refused(0, "child 0 0;", 2, 8);
        Check.refused(1, "promise 10 0 1;", 2, 8);
        Check.refused(1, "promise 9 6 1;", 2, 10);
        Check.refused(1, "promise 9 5 0;", 2, 12);
        Check.refused(1, "promise 9 5 10;", 2, 12);
        Check.refused(1, "born 10 0;", 2, 5);
        Check.refused(1, "born 9 10;", 2, 7);
        Check.refused(1, "cover 10;", 2, 6);
        Check.refused(1, "die 10;", 2, 4);
        Check.refused(2, "years 0;", 2, 6);
        Check.refused(2, "years 10;", 2, 6);
        Check.refused(2, "dug 6 0;", 2, 4);
        Check.refused(2, "dug 5 31;", 2, 6);
        PromiseValley x = new PromiseValley();
        Check.told(x, 0, "folk 99 9;folk 0 0;work 30 20;work 1 0;bound 1;bound 30;child 1 0;", 0);
        Check.told(x, 1, "promise 9 5 9;promise 0 0 1;born 9 9;cover 9;die 9;year;", 0);
        Check.told(x, 2, "years 9;years 1;dug 5 30;dug 0 0;", 0);
    }

    private static void faultOfMany() {
        String folk = Check.times(10, "folk 1 1;");
        Check.refused(0, folk + "folk 1 1;", 3, 90);
        Check.refused(0, folk + "folk 1 10;", 3, 90);
        Check.refused(0, Check.times(6, "work 1 1;") + " work 1 1;", 3, 55);
        Check.refused(1, Check.times(40, "year;") + "die 1;", 3, 200);
        Check.refused(2, Check.times(8, "dug 1 1;") + "dug 1 1;", 3, 64);
        PromiseValley x = new PromiseValley();
        Check.told(x, 0, folk + Check.times(6, "work 1 1;") + "bound 3;child 9 8;", 0);
        Check.told(x, 1, Check.times(40, "year;"), 0);
        Check.told(x, 2, Check.times(8, "dug 1 1;") + "years 3;", 0);
        Check.due("folk", x.valley(0, 0), 10);
        Check.due("works", x.valley(0, 1), 6);
        Check.due("deeds", x.deed(0, -1, 0), 40);
        Check.due("facts", x.sight(0, 1), 8);
    }

    private static void faultsOfFamilies() {
        Check.refused(0, "child 1 0;", 4, 10);
        Check.refused(0, "folk 1 1;child 1 0;\n", 4, 20);
        String four = Check.times(4, "folk 1 1;");
        Check.refused(0, four + "child 3 0;child 3 1;child 3 2;", 5, 66);
        Check.refused(0, "child 3 0;child 3 1;child 3 2;", 4, 30);
        Check.refused(0, four + "child 3 0;child 3 1;child 3 2;child 4 0;", 4, 76);
        PromiseValley x = new PromiseValley();
        Check.told(x, 0, "child 3 2;" + four + "child 3 0;child 3 2;child 3 0;", 0);
        Check.due("parents told twice", x.valley(0, 33), 5);
    }

    private static void whichFaultCounts() {
        Check.refused(0, "bound 0;folk 1 10;child 1 0;", 2, 6);
        Check.refused(0, "bound 0;folk 1 10;child 1", 1, 25);
        Check.refused(0, Check.times(11, "folk 1 1;") + "bound 0;", 3, 90);
        Check.refused(0, "bound 0;" + Check.times(11, "folk 1 1;"), 2, 6);
        Check.refused(0, Check.times(11, "folk 1 1;") + "?", 1, 99);
        // lines with a wrong number are told all the same, but come first by place
        Check.refused(0, "folk 1 10;" + Check.times(10, "folk 1 1;"), 2, 7);
        Check.refused(0, "child 3 3;child 9 0;", 2, 8);
    }

    private static void valleyTold() {
        PromiseValley x = new PromiseValley();
        Check.told(x, 0, "bound 9;folk 70 5;folk 68 6;folk 40 3;folk 41 4;folk 8 1;folk 9 2;"
            + "child 2 0;child 2 1;child 4 2;child 4 3;child 5 4;work 30 20;work 7 0;bound 8;", 0);
        Check.told(x, 0, "", 1);
        int[] what = {0, 1, 2, 10, 15, 20, 25, 30, 31, 32, 34, 35, 40, 42, 44, 45, 50, 51, 60, 61};
        int[] want = {6, 2, 8, 70, 9, 5, 2, 0, 0, 3, 12, 16, 0, 0, 3, 12, 30, 7, 20, 0};
        for (int i = 0; i < what.length; i++) {
            Check.due("valley(0, " + what[i] + ")", x.valley(0, what[i]), want[i]);
        }
        int[] none = {-1, 3, 9, 16, 19, 26, 36, 46, 49, 52, 56, 62, 70, 1000, Integer.MIN_VALUE, Integer.MAX_VALUE};
        for (int w : none) {
            Check.due("valley(0, " + w + ")", x.valley(0, w), -1);
        }
        Check.due("valley(1, 0)", x.valley(1, 0), 0);
        Check.due("valley(1, 2)", x.valley(1, 2), 20);
        Check.due("valley(1, 10)", x.valley(1, 10), -1);
        Check.due("valley(2, 0)", x.valley(2, 0), -1);
        Check.due("valley(-1, 0)", x.valley(-1, 0), -1);
    }

    private static void deedsTold() {
        PromiseValley x = new PromiseValley();
        Check.told(x, 1, "promise 9 5 8;born 7 6;cover 4;die 3;year;", 0);
        int[][] want = {{0, 9, 5, 8}, {1, 7, 6, -1}, {2, 4, -1, -1}, {3, 3, -1, -1}, {4, -1, -1, -1}};
        for (int k = 0; k < 5; k++) {
            for (int what = 0; what < 4; what++) {
                Check.due("deed(0, " + k + ", " + what + ")", x.deed(0, k, what), want[k][what]);
            }
        }
        Check.due("deed(0, -1, 0)", x.deed(0, -1, 0), 5);
        Check.due("deed(0, -1, 1)", x.deed(0, -1, 1), -2);
        Check.due("deed(0, 5, 0)", x.deed(0, 5, 0), -2);
        Check.due("deed(0, -2, 0)", x.deed(0, -2, 0), -2);
        Check.due("deed(0, 0, 4)", x.deed(0, 0, 4), -2);
        Check.due("deed(0, 0, -1)", x.deed(0, 0, -1), -2);
        Check.due("deed(1, -1, 0)", x.deed(1, -1, 0), -2);
        Check.due("deed(-1, -1, 0)", x.deed(-1, -1, 0), -2);
    }

    private static void sightTold() {
        PromiseValley x = new PromiseValley();
        Check.told(x, 2, "dug 5 30;years 4;dug 0 7;years 3;dug 5 30;", 0);
        Check.told(x, 2, "", 1);
        int[] what = {0, 1, 10, 11, 12, 20, 21, 22, 13, 23, 2, 9, 18, 19, 28, -1};
        int[] want = {3, 3, 5, 0, 5, 30, 7, 30, -1, -1, -1, -1, -1, -1, -1, -1};
        for (int i = 0; i < what.length; i++) {
            Check.due("sight(0, " + what[i] + ")", x.sight(0, what[i]), want[i]);
        }
        Check.due("sight(1, 0)", x.sight(1, 0), 1);
        Check.due("sight(1, 1)", x.sight(1, 1), 0);
        Check.due("sight(2, 0)", x.sight(2, 0), -1);
        Check.due("sight(-1, 0)", x.sight(-1, 0), -1);
    }

    private static void counts() {
        PromiseValley x = new PromiseValley();
        Check.told(x, 0, "", 0);
        Check.told(x, 2, "", 0);
        Check.told(x, 2, "", 1);
        int[] want = {-2, 1, 0, 2, -2};
        for (int sort = -1; sort <= 3; sort++) {
            Check.due("count(" + sort + ")", x.count(sort), want[sort + 1]);
        }
    }

    private static void images() {
        PromiseValley x = new PromiseValley();
        Check.due("image(-1)", x.image(-1), false);
        Check.due("image(3)", x.image(3), false);
        Check.due("again(2)", x.again(2), false);
        Check.due("image(2)", x.image(2), true);
        Check.told(x, 0, "folk 50 5;work 9 9;", 0);
        Check.told(x, 1, "year;", 0);
        Check.told(x, 2, "dug 0 3;", 0);
        Check.due("a wrong text", Check.tell(x, 0, -1, "bound 0;"), -1);
        Check.tape(x, "bound 5;");
        Check.due("image(0)", x.image(0), true);
        Check.due("the tape is text", x.text(0, 0), 0);
        Check.due("bound", x.valley(0, 2), 5);
        Check.due("no fault", x.fault(0), 0);
        Check.due("other life", Check.tell(x, 1, 0, "die 1;year;"), 0);
        Check.due("other sight", Check.tell(x, 2, 0, "years 7;"), 0);
        Check.due("image(1)", x.image(1), true);
        Check.due("again(0)", x.again(0), true);
        Check.due("folk", x.valley(0, 0), 1);
        Check.due("bound", x.valley(0, 2), 20);
        Check.due("life", x.deed(0, -1, 0), 1);
        Check.due("sight", x.sight(0, 0), 1);
        Check.due("fact", x.sight(0, 20), 3);
        Check.due("fault", x.fault(0), 2);
        Check.due("place", x.fault(1), 6);
        Check.due("the tape", x.end(9), -1);
        Check.due("the tape", x.end(8), 8);
        Check.due("the tape as a text", x.text(0, -1), 1);
        Check.due("bound of it", x.valley(1, 2), 5);
        Check.due("again(1)", x.again(1), true);
        Check.due("count", x.count(0), 1);
        Check.due("life", x.deed(0, -1, 0), 2);
        Check.due("years", x.sight(0, 0), 7);
        Check.due("again(2)", x.again(2), true);
        Check.due("count", x.count(0), 0);
        Check.due("count", x.count(2), 0);
        Check.due("the other images stay", x.again(0), true);
        Check.due("count", x.count(0), 1);
        Check.due("image(0) anew", x.image(0), true);
        Check.due("again(3)", x.again(3), false);
        Check.due("again(-1)", x.again(-1), false);
    }
}
