/** Edges of promises 1 to 5 and 33 to 35: the tape, how many texts there are, the latest FAULT, images. */
final class EdgesOfTape {
    private static final int MIN = Integer.MIN_VALUE;
    private static final int MAX = Integer.MAX_VALUE;
    private static final int BLANKS = 0x20202020;
    /** A right text of each sort that a look at the sort tells from an empty one. */
    private static final String[] RIGHT = {"bound 5;", "year;", "years 5;"};
    private static final String[] OTHER = {"bound 6;", "year;year;", "years 6;"};
    private static final int[] EMPTY_LOOK = {20, 0, 1};
    private static final int[] RIGHT_LOOK = {5, 1, 5};
    private static final int[] OTHER_LOOK = {6, 2, 6};

    private EdgesOfTape() {
    }

    static void run() {
        newObjectHoldsNothing();
        newObjectIsItsOwn();
        feedLaysTheHighestByteFirst();
        feedUpToSixHundred();
        refusedFeedLaysNothing();
        endUpToWhatThereIs();
        refusedEndLeavesTheTape();
        endDropsWhatIsBehind();
        tapeIsEmptyThen();
        emptyTapeIsAText();
        fullTapeIsAText();
        furtherOnesAndPlaces();
        asManyAsMayBe();
        noneSuch();
        noSuchSort();
        faultLeavesAllAsItIs();
        faultOfTheLatestText();
        faultOfAnotherWhat();
        countOfASort();
        countOfAnotherSort();
        imagesZeroToTwo();
        imageOfAnotherNumber();
        imageHoldsTapeAndFault();
        imageIsAsItWasThen();
        imageTakenAnew();
        againWithoutImage();
        againLeavesOtherImages();
    }

    static PromiseValley withTape(int length) {
        PromiseValley x = new PromiseValley();
        Check.tape(x, Check.times(length, " "));
        return x;
    }

    /** What tells the texts above apart: BOUND, DEEDS, YEARS. */
    private static int look(PromiseValley x, int sort, int k) {
        if (sort == 0) {
            return x.valley(k, 2);
        }
        return sort == 1 ? x.deed(k, -1, 0) : x.sight(k, 0);
    }

    private static void lengthIs(String behind, PromiseValley x, int length) {
        Check.due("end(" + (length + 1) + ") " + behind, x.end(length + 1), -1);
        Check.due("end(" + length + ") " + behind, x.end(length), length);
    }

    private static void faultIs(String behind, PromiseValley x, int fault, int place) {
        Check.due("fault(0) " + behind, x.fault(0), fault);
        Check.due("fault(1) " + behind, x.fault(1), place);
    }

    private static void newObjectHoldsNothing() {
        Words.promise(1, "No VALLEYS, LIVES, SIGHTS; no images.");
        PromiseValley x = new PromiseValley();
        for (int sort = 0; sort < 3; sort++) {
            Check.due("count(" + sort + ")", x.count(sort), 0);
        }
        Check.due("valley(0, 0)", x.valley(0, 0), -1);
        Check.due("deed(0, -1, 0)", x.deed(0, -1, 0), -2);
        Check.due("sight(0, 0)", x.sight(0, 0), -1);
        Check.due("stop(0, 0)", x.stop(0, 0), -1);
        Check.due("state(0, 0, 0, 0)", x.state(0, 0, 0, 0), -2);
        Check.due("after(0, 0, 0)", x.after(0, 0, 0), -2);
        Check.due("fits(0, 0, 0)", x.fits(0, 0, 0), -2);
        Check.due("drawn(0, 0, 0, 0)", x.drawn(0, 0, 0, 0), -2);
        for (int k = 0; k < 3; k++) {
            Check.due("again(" + k + ")", x.again(k), false);
        }
        faultIs("of a new object", x, 0, -1);
        lengthIs("of a new object", x, 0);
    }

    private static void newObjectIsItsOwn() {
        Words.promise(1, "No VALLEYS, LIVES, SIGHTS; no images.");
        PromiseValley other = new PromiseValley();
        for (int sort = 0; sort < 3; sort++) {
            Check.told(other, sort, RIGHT[sort], 0);
            Check.due("image(" + sort + ") of the other", other.image(sort), true);
        }
        Check.tape(other, "bound 9;");
        newObjectHoldsNothing();
    }

    private static void feedLaysTheHighestByteFirst() {
        Words.promise(2, "twenty bytes come behind it, of each number the highest first");
        // "bound 7;" and blanks, five numbers: the order within and of the numbers counts
        PromiseValley x = new PromiseValley();
        Check.due("feed", x.feed(BLANKS, 0x0a626f75, 0x6e642037, 0x3b0a0a0a, 0x0a0a0a20), 20);
        Check.due("text", x.text(0, -1), 0);
        Check.due("bound", x.valley(0, 2), 7);
        // a byte that is no text's, at each of the twenty places: of the highest bit too
        for (int at = 0; at < 20; at++) {
            int[] five = {BLANKS, BLANKS, BLANKS, BLANKS, BLANKS};
            five[at / 4] |= 0x80 << (24 - 8 * (at % 4));
            x = new PromiseValley();
            Check.due("feed to 20", x.feed(BLANKS, BLANKS, BLANKS, BLANKS, BLANKS), 20);
            Check.due("feed to 40", x.feed(five[0], five[1], five[2], five[3], five[4]), 40);
            Check.due("text", x.text(0, -1), -1);
            faultIs("with byte 160 at " + (20 + at), x, 1, 20 + at);
        }
        x = new PromiseValley();
        Check.due("feed of the least and the greatest", x.feed(MIN, MAX, -1, 0, 1), 20);
    }

    private static void feedUpToSixHundred() {
        Words.promise(2, "how many it has. NONE, and nothing comes, if there would be more than 600.");
        for (int length = 0; length <= 600; length++) {
            PromiseValley x = withTape(length);
            int want = length <= 580 ? length + 20 : -1;
            Check.due("feed behind " + length, x.feed(0, 0, 0, 0, 0), want);
            lengthIs("behind feed behind " + length, x, want == -1 ? length : want);
        }
    }

    private static void refusedFeedLaysNothing() {
        Words.promise(2, "NONE, and nothing comes, if there would be more than 600.");
        for (int length = 581; length <= 600; length++) {
            PromiseValley x = new PromiseValley();
            Check.tape(x, "bound 7;" + Check.times(length - 8, " "));
            Check.due("feed behind " + length, x.feed(-1, -1, -1, -1, -1), -1);
            Check.due("feed again behind " + length, x.feed(-1, -1, -1, -1, -1), -1);
            Check.due("text of " + length, x.text(0, -1), 0);
            Check.due("bound", x.valley(0, 2), 7);
        }
        PromiseValley x = withTape(580);
        Check.due("feed behind 580", x.feed(BLANKS, BLANKS, BLANKS, BLANKS, BLANKS - 0x1f), 600);
        Check.due("text of 600", x.text(0, -1), -1);
        faultIs("with byte 1 at 599", x, 1, 599);
    }

    private static void endUpToWhatThereIs() {
        Words.promise(3, "NONE if it has not so many, or n is below 0.");
        for (int length : new int[] {0, 1, 19, 20, 21, 599, 600}) {
            PromiseValley x = withTape(length);
            for (int n : new int[] {length + 1, length + 2, 601, 1000, MAX, -1, -2, -length - 1, MIN}) {
                Check.due("end(" + n + ") of " + length, x.end(n), -1);
            }
            Check.due("end(" + length + ") of " + length, x.end(length), length);
            Check.due("end(0) of " + length, x.end(0), 0);
            Check.due("end(0) of nothing", x.end(0), 0);
        }
    }

    private static void refusedEndLeavesTheTape() {
        Words.promise(3, "NONE if it has not so many, or n is below 0.");
        PromiseValley x = new PromiseValley();
        Check.tape(x, "bound 7;");
        Check.due("end(9)", x.end(9), -1);
        Check.due("end(-1)", x.end(-1), -1);
        Check.due("text", x.text(0, -1), 0);
        Check.due("bound", x.valley(0, 2), 7);
    }

    private static void endDropsWhatIsBehind() {
        Words.promise(3, "The tape has its first n bytes alone: n.");
        PromiseValley x = new PromiseValley();
        Check.tape(x, "bound 12;folk 1 1;");
        Check.due("end(7)", x.end(7), 7);
        Check.due("what is behind is gone", x.end(8), -1);
        // ";" and blanks come just behind the "1"
        Check.due("feed behind 7", x.feed(0x3b202020, BLANKS, BLANKS, BLANKS, BLANKS), 27);
        Check.due("text", x.text(0, -1), 0);
        Check.due("bound", x.valley(0, 2), 1);
        Check.due("folk", x.valley(0, 0), 0);
    }

    private static void tapeIsEmptyThen() {
        Words.promise(4, "The tape is taken (and is empty then)");
        int[][] calls = {{0, -1}, {0, 0}, {1, -1}, {2, -1}, {2, 1}, {3, -1}, {-1, 0}, {0, 9}};
        for (String text : new String[] {"", " ", "bound 7;", "bound 0;", "?", Check.times(600, " ")}) {
            for (int[] call : calls) {
                PromiseValley x = new PromiseValley();
                Check.told(x, 0, "", 0);
                Check.tape(x, text);
                x.text(call[0], call[1]);
                lengthIs("behind text(" + call[0] + ", " + call[1] + ")", x, 0);
                Check.due("a second text of nothing", x.text(0, 0), 0);
                Check.due("bound of nothing", x.valley(0, 2), 20);
            }
        }
    }

    private static void emptyTapeIsAText() {
        Words.promise(4, "as a text of a sort, a further one (at NONE), or in the place of one: its number.");
        for (int sort = 0; sort < 3; sort++) {
            PromiseValley x = new PromiseValley();
            Check.due("text(" + sort + ", -1) of nothing", x.text(sort, -1), 0);
            faultIs("of nothing", x, 0, -1);
            Check.due("look at nothing", look(x, sort, 0), EMPTY_LOOK[sort]);
            Check.due("in its place", Check.tell(x, sort, 0, RIGHT[sort]), 0);
            Check.due("look at the right one", look(x, sort, 0), RIGHT_LOOK[sort]);
            Check.due("nothing in its place", x.text(sort, 0), 0);
            Check.due("look at nothing again", look(x, sort, 0), EMPTY_LOOK[sort]);
        }
    }

    private static void fullTapeIsAText() {
        Words.term(1, "THE TAPE has at most 600 bytes.");
        PromiseValley x = new PromiseValley();
        Check.told(x, 0, Check.times(74, "bound 1;") + "bound 9;", 0);
        Check.due("the 75th bound", x.valley(0, 2), 9);
        Check.told(x, 2, Check.times(74, "years 1;") + "years 9;", 0);
        Check.due("the 75th years", x.sight(0, 0), 9);
        Check.told(x, 1, Check.times(595, "\n") + "year;", 0);
        Check.due("one deed", x.deed(0, -1, 0), 1);
        Check.refused(1, Check.times(596, " ") + "year", 1, 600);
        Check.refused(0, "folk 1 1;" + Check.times(581, " ") + "child 1 0;", 4, 600);
        Check.refused(0, Check.times(600, "f"), 1, 0);
        Check.refused(0, Check.times(600, "1"), 1, 0);
        Check.refused(0, "folk" + Check.times(596, "1"), 1, 4);
    }

    private static void furtherOnesAndPlaces() {
        Words.promise(4, "a further one (at NONE), or in the place of one: its number.");
        for (int sort = 0; sort < 3; sort++) {
            PromiseValley x = new PromiseValley();
            Check.told(x, sort, "", 0);
            Check.told(x, sort, RIGHT[sort], 1);
            Check.due("in place 0", Check.tell(x, sort, 0, OTHER[sort]), 0);
            Check.due("place 0", look(x, sort, 0), OTHER_LOOK[sort]);
            Check.due("place 1 stays", look(x, sort, 1), RIGHT_LOOK[sort]);
            Check.due("in place 1", Check.tell(x, sort, 1, ""), 1);
            Check.due("place 0 stays", look(x, sort, 0), OTHER_LOOK[sort]);
            Check.due("place 1", look(x, sort, 1), EMPTY_LOOK[sort]);
            Check.due("count stays", x.count(sort), 2);
        }
    }

    private static void asManyAsMayBe() {
        Words.promise(4, "there are as many as may be");
        for (int sort = 0; sort < 3; sort++) {
            PromiseValley x = new PromiseValley();
            Check.told(x, sort, RIGHT[sort], 0);
            Check.told(x, sort, RIGHT[sort], 1);
            Check.due("a wrong text", Check.tell(x, sort, 0, "?"), -1);
            Check.due("a third one", Check.tell(x, sort, -1, OTHER[sort]), -2);
            faultIs("of a third one", x, 0, -1);
            Check.due("a third one that is wrong", Check.tell(x, sort, -1, "?"), -2);
            faultIs("of a third one that is wrong", x, 0, -1);
            Check.due("0 stays", look(x, sort, 0), RIGHT_LOOK[sort]);
            Check.due("1 stays", look(x, sort, 1), RIGHT_LOOK[sort]);
            Check.due("count", x.count(sort), 2);
            for (int other = 0; other < 3; other++) {
                if (other != sort) {
                    Check.told(x, other, RIGHT[other], 0);
                }
            }
        }
    }

    private static void noneSuch() {
        Words.promise(4, "-2: there is none such");
        for (int sort = 0; sort < 3; sort++) {
            for (int many = 0; many <= 2; many++) {
                PromiseValley x = new PromiseValley();
                for (int k = 0; k < many; k++) {
                    Check.told(x, sort, RIGHT[sort], k);
                }
                for (int at : new int[] {many, many + 1, 2, 3, -2, -3, MIN, MAX}) {
                    Check.due("a wrong text", Check.tell(x, 0, x.count(0) == 2 ? 0 : -1, "?"), -1);
                    Check.due("text(" + sort + ", " + at + ")", Check.tell(x, sort, at, OTHER[sort]), -2);
                    faultIs("of none such", x, 0, -1);
                }
                Check.due("count", x.count(sort), many);
                for (int k = 0; k < many; k++) {
                    Check.due("what is there stays", look(x, sort, k), RIGHT_LOOK[sort]);
                }
            }
        }
    }

    private static void noSuchSort() {
        Words.promise(4, "or no such sort (no text is read then, FAULT 0).");
        for (int sort : new int[] {-1, -2, 3, 4, MIN, MAX}) {
            for (int at : new int[] {-1, 0, 1, 2}) {
                PromiseValley x = new PromiseValley();
                Check.told(x, 0, RIGHT[0], 0);
                Check.due("a wrong text", Check.tell(x, 0, -1, "?"), -1);
                Check.due("text(" + sort + ", " + at + ")", Check.tell(x, sort, at, OTHER[0]), -2);
                faultIs("of no such sort", x, 0, -1);
                Check.due("count(0)", x.count(0), 1);
                Check.due("count(1)", x.count(1), 0);
                Check.due("count(2)", x.count(2), 0);
                Check.due("what is there stays", x.valley(0, 2), 5);
            }
        }
    }

    private static void faultLeavesAllAsItIs() {
        Words.promise(4, "NONE: a FAULT.");
        for (int sort = 0; sort < 3; sort++) {
            PromiseValley x = new PromiseValley();
            Check.due("a further one", Check.tell(x, sort, -1, RIGHT[sort] + "?"), -1);
            Check.due("none came", x.count(sort), 0);
            Check.told(x, sort, RIGHT[sort], 0);
            Check.due("in its place", Check.tell(x, sort, 0, OTHER[sort] + "?"), -1);
            Check.due("it stays", look(x, sort, 0), RIGHT_LOOK[sort]);
            Check.due("count", x.count(sort), 1);
            // nothing of a wrong text is left in the next one
            Check.told(x, sort, "", 1);
            Check.due("an empty one behind it", look(x, sort, 1), EMPTY_LOOK[sort]);
        }
        PromiseValley x = new PromiseValley();
        Check.due("three parents", Check.tell(x, 0, -1, Check.times(4, "folk 1 1;")
            + "work 1 1;child 3 0;child 3 1;child 3 2;"), -1);
        Check.told(x, 0, Check.times(4, "folk 1 1;"), 0);
        Check.due("no parents are left", x.valley(0, 33), 0);
        Check.due("no works are left", x.valley(0, 1), 0);
    }

    private static void faultOfTheLatestText() {
        Words.promise(5, "Of the latest text(), what 0: the FAULT, 0 without, 1: its place, NONE without.");
        PromiseValley x = new PromiseValley();
        faultIs("without any text", x, 0, -1);
        Check.due("wrong", Check.tell(x, 0, -1, "bound 31;"), -1);
        faultIs("of a wrong number", x, 2, 6);
        Check.tape(x, "");
        Check.due("feed", x.feed(0, 0, 0, 0, 0), 20);
        x.count(0);
        x.valley(0, 0);
        faultIs("till the next text", x, 2, 6);
        Check.due("wrong at its first byte", x.text(1, -1), -1);
        faultIs("place 0 is a place", x, 1, 0);
        Check.told(x, 1, "", 0);
        faultIs("of a right one", x, 0, -1);
        Check.due("wrong", Check.tell(x, 1, -1, "die 10;"), -1);
        faultIs("of a life", x, 2, 4);
        Check.due("no such sort", x.text(7, -1), -2);
        faultIs("of no such sort", x, 0, -1);
    }

    private static void faultOfAnotherWhat() {
        Words.promise(5, "NONE for another what.");
        PromiseValley x = new PromiseValley();
        Check.due("wrong", Check.tell(x, 0, -1, "bound 31;"), -1);
        for (int what : new int[] {-1, -2, 2, 3, 10, MIN, MAX}) {
            Check.due("fault(" + what + ")", x.fault(what), -1);
        }
    }

    private static void countOfASort() {
        Words.promise(33, "How many there are of a sort.");
        for (int sort = 0; sort < 3; sort++) {
            PromiseValley x = new PromiseValley();
            for (int many = 0; many <= 2; many++) {
                for (int other = 0; other < 3; other++) {
                    Check.due("count(" + other + ")", x.count(other), other == sort ? many : 0);
                }
                Check.tell(x, sort, -1, RIGHT[sort]);
            }
            Check.due("a third one is refused", x.count(sort), 2);
        }
    }

    private static void countOfAnotherSort() {
        Words.promise(33, "-2 for another one.");
        for (int sort : new int[] {-1, -2, 3, 4, MIN, MAX}) {
            Check.due("count(" + sort + ")", new PromiseValley().count(sort), -2);
        }
    }

    private static void imagesZeroToTwo() {
        Words.promise(34, "Image k (0 .. 2) is all that is told");
        PromiseValley x = new PromiseValley();
        for (int k = 0; k < 3; k++) {
            Check.due("text", Check.tell(x, 0, k == 0 ? -1 : 0, "bound " + (k + 1) + ";"), 0);
            Check.due("image(" + k + ")", x.image(k), true);
        }
        for (int k = 0; k < 3; k++) {
            Check.due("again(" + k + ")", x.again(k), true);
            Check.due("bound of image " + k, x.valley(0, 2), k + 1);
        }
    }

    private static void imageOfAnotherNumber() {
        Words.promise(34, "false for another k.");
        PromiseValley x = new PromiseValley();
        Check.told(x, 0, RIGHT[0], 0);
        for (int k : new int[] {-1, -2, 3, 4, MIN, MAX}) {
            Check.due("image(" + k + ")", x.image(k), false);
            Check.due("again(" + k + ")", x.again(k), false);
        }
        for (int k = 0; k < 3; k++) {
            Check.due("no image came of it: again(" + k + ")", x.again(k), false);
        }
        Check.due("all stays", x.valley(0, 2), 5);
    }

    private static void imageHoldsTapeAndFault() {
        Words.promise(34, "(the tape, the FAULT, too)");
        PromiseValley x = new PromiseValley();
        Check.due("wrong", Check.tell(x, 0, -1, "bound 31;"), -1);
        Check.tape(x, "bound 8;" + Check.times(592, "\n"));
        Check.due("image(2)", x.image(2), true);
        Check.due("all that is told is text", x.text(0, -1), 0);
        Check.due("feed", x.feed(1, 2, 3, 4, 5), 20);
        Check.due("again(2)", x.again(2), true);
        faultIs("of the image", x, 2, 6);
        Check.due("count of the image", x.count(0), 0);
        Check.due("the tape is full", x.feed(0, 0, 0, 0, 0), -1);
        Check.due("end(600)", x.end(600), 600);
        Check.due("text of the image", x.text(0, -1), 0);
        Check.due("bound of it", x.valley(0, 2), 8);
        // an empty tape and no fault are told too
        x = new PromiseValley();
        Check.due("image(0) of nothing", x.image(0), true);
        Check.due("wrong", Check.tell(x, 0, -1, "bound 31;"), -1);
        Check.tape(x, "bound 3;");
        Check.due("again(0)", x.again(0), true);
        faultIs("of nothing", x, 0, -1);
        lengthIs("of nothing", x, 0);
    }

    private static void imageIsAsItWasThen() {
        Words.promise(34, "as it is now: true");
        for (int sort = 0; sort < 3; sort++) {
            PromiseValley x = new PromiseValley();
            Check.told(x, sort, RIGHT[sort], 0);
            Check.due("image(1)", x.image(1), true);
            for (int turn = 0; turn < 2; turn++) {
                Check.due("in its place", Check.tell(x, sort, 0, OTHER[sort]), 0);
                Check.told(x, sort, "", 1);
                Check.due("again(1)", x.again(1), true);
                Check.due("as it was", look(x, sort, 0), RIGHT_LOOK[sort]);
                Check.due("one alone", x.count(sort), 1);
            }
        }
    }

    private static void imageTakenAnew() {
        Words.promise(34, "Image k (0 .. 2) is all that is told");
        PromiseValley x = new PromiseValley();
        Check.told(x, 0, "bound 3;", 0);
        Check.due("image(0)", x.image(0), true);
        Check.due("in its place", Check.tell(x, 0, 0, "bound 4;"), 0);
        Check.due("image(0) anew", x.image(0), true);
        Check.due("in its place", Check.tell(x, 0, 0, "bound 5;"), 0);
        Check.due("again(0)", x.again(0), true);
        Check.due("bound", x.valley(0, 2), 4);
    }

    private static void againWithoutImage() {
        Words.promise(35, "false if there is none such.");
        PromiseValley x = new PromiseValley();
        Check.due("image(1)", x.image(1), true);
        Check.told(x, 0, RIGHT[0], 0);
        Check.due("wrong", Check.tell(x, 0, -1, "bound 31;"), -1);
        Check.tape(x, "bound 3;");
        for (int k : new int[] {0, 2, 3, 4, -1, -2, MIN, MAX}) {
            Check.due("again(" + k + ")", x.again(k), false);
        }
        Check.due("all stays", x.valley(0, 2), 5);
        faultIs("stays", x, 2, 6);
        lengthIs("stays", x, 8);
        Check.due("again(1)", x.again(1), true);
        Check.due("count", x.count(0), 0);
    }

    private static void againLeavesOtherImages() {
        Words.promise(35, "All that is as image k has it (other images stay): true");
        PromiseValley x = new PromiseValley();
        Check.due("image(0) of nothing", x.image(0), true);
        Check.told(x, 0, "bound 3;", 0);
        Check.due("image(1)", x.image(1), true);
        Check.due("again(0)", x.again(0), true);
        Check.due("no images are gone: again(1)", x.again(1), true);
        Check.due("bound", x.valley(0, 2), 3);
        Check.due("again(2)", x.again(2), false);
        // the image stays too, whatever is told behind it
        for (int turn = 0; turn < 2; turn++) {
            Check.due("again(0)", x.again(0), true);
            Check.due("nothing is told", x.count(0), 0);
            Check.told(x, 0, "bound 9;", 0);
        }
        Check.due("again(1)", x.again(1), true);
        Check.due("bound", x.valley(0, 2), 3);
        Check.due("image(2) of image 1", x.image(2), true);
        Check.due("again(0)", x.again(0), true);
        Check.due("again(2)", x.again(2), true);
        Check.due("bound", x.valley(0, 2), 3);
    }
}
