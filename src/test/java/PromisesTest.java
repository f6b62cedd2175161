/** At least one test for each promise of the document: ordinary inputs, the edges it names, wrong inputs. */
public final class PromisesTest {
    private static final int[] NOT_IN_RANGE = {
        Integer.MIN_VALUE, -33, -32, -16, -9, -8, -2, -1, 16, 17, 31, 32, 40, 63, 64, 256, 65536, Integer.MAX_VALUE
    };

    private static int promise = 0;
    private static int wrong = 0;

    public static void main(String[] args) {
        promise = 1;
        newObject();
        objectsAreSeparate();
        promise = 2;
        splitGivesHalfAndKnowledge();
        splitTakesLeastFreeSlot();
        splitRefuses();
        promise = 3;
        joinUnites();
        joinRefuses();
        joinedSlotStartsAnew();
        promise = 4;
        eventCounts();
        eventRefuses();
        eventsAreAllApart();
        promise = 5;
        tellTeaches();
        tellRefuses();
        promise = 6;
        noteKeeps();
        noteForgetsWhatItHeld();
        noteRefuses();
        noteOfNothingKnown();
        promise = 7;
        eraseEmpties();
        promise = 8;
        partiesAreBits();
        promise = 9;
        notesAreBits();
        promise = 10;
        eventsCountsAll();
        promise = 11;
        cellsOfAll();
        promise = 12;
        compareAnswersFour();
        compareRefuses();
        promise = 13;
        behindListsAll();
        promise = 14;
        newestAreNotOutdone();
        promise = 15;
        everywhereAsksAllParties();
        promise = 16;
        apartPairsCounts();
        promise = 17;
        emptyNotesAreNotThere();
        badComesBeforeFull();
        System.out.println(wrong == 0 ? "all answers are as due" : wrong + " answers are not as due");
        if (wrong != 0) {
            System.exit(1);
        }
    }

    private static void due(String what, int got, int want) {
        if (got != want) {
            wrong++;
            System.out.println("promise " + promise + ": " + what + " answered " + got + ", due is " + want);
        }
    }

    private static void due(String what, boolean got, boolean want) {
        due(what, got ? 1 : 0, want ? 1 : 0);
    }

    /** Eight parties of four cells each that all know nothing. */
    private static IntervalClocks eightParties() {
        IntervalClocks c = new IntervalClocks();
        int[] splitters = {0, 0, 1, 0, 1, 2, 3};
        for (int i = 0; i < splitters.length; i++) {
            due("split(" + splitters[i] + ")", c.split(splitters[i]), i + 1);
        }
        return c;
    }

    private static IntervalClocks withEvents(int count) {
        IntervalClocks c = new IntervalClocks();
        for (int i = 1; i <= count; i++) {
            due("event(0)", c.event(0), i);
        }
        return c;
    }

    private static void newObject() {
        IntervalClocks c = new IntervalClocks();
        due("parties()", c.parties(), 1);
        due("notes()", c.notes(), 0);
        due("events()", c.events(), 0);
        due("cells(0)", c.cells(0), 32);
        due("behind(0)", c.behind(0), 1);
        due("newest()", c.newest(), 1);
        due("apartPairs()", c.apartPairs(), 0);
        for (int n = 0; n < 8; n++) {
            due("everywhere of an empty note", c.everywhere(n), false);
            due("erase of an empty note", c.erase(n), false);
        }
        due("split(0)", c.split(0), 1);
        due("event(1)", c.event(1), 1);
        due("compare(0, 1): 0 knows nothing", c.compare(0, 1), IntervalClocks.BEHIND);
    }

    private static void objectsAreSeparate() {
        IntervalClocks c = new IntervalClocks();
        IntervalClocks d = new IntervalClocks();
        c.event(0);
        c.split(0);
        c.note(0, 3);
        due("events() of another object", d.events(), 0);
        due("parties() of another object", d.parties(), 1);
        due("notes() of another object", d.notes(), 0);
        due("cells(0) of another object", d.cells(0), 32);
    }

    private static void splitGivesHalfAndKnowledge() {
        IntervalClocks c = withEvents(70);
        due("split(0)", c.split(0), 1);
        due("compare(0, 1) after a split", c.compare(0, 1), IntervalClocks.SAME);
        due("cells(0)", c.cells(0), 16);
        due("cells(1)", c.cells(1), 16);
        due("split(1)", c.split(1), 2);
        due("split(2)", c.split(2), 3);
        due("join(0, 3)", c.join(0, 3), 20);
        due("join(0, 2)", c.join(0, 2), 24);
        due("split(1)", c.split(1), 2);
        due("split(2)", c.split(2), 3);
        due("split(3)", c.split(3), 4);
        due("join(2, 4)", c.join(2, 4), 3);
        due("split of three cells", c.split(2), 4);
        due("the splitting one keeps two", c.cells(2), 2);
        due("the new one gets one", c.cells(4), 1);
        due("events() after splits", c.events(), 70);
    }

    private static void splitTakesLeastFreeSlot() {
        IntervalClocks c = eightParties();
        due("join(7, 5)", c.join(7, 5), 8);
        due("join(7, 0)", c.join(7, 0), 12);
        due("join(7, 2)", c.join(7, 2), 16);
        due("split(7), slot 0 free", c.split(7), 0);
        due("split(7), slot 2 free", c.split(7), 2);
        due("split(7), slot 5 free", c.split(7), 5);
        due("cells(7)", c.cells(7), 2);
        due("parties()", c.parties(), 255);
    }

    private static void splitRefuses() {
        IntervalClocks c = eightParties();
        for (int a = 0; a < 8; a++) {
            due("split with eight parties", c.split(a), IntervalClocks.FULL);
            due("cells after a refused split", c.cells(a), 4);
        }
        IntervalClocks d = new IntervalClocks();
        for (int i = 1; i <= 5; i++) {
            due("split(0)", d.split(0), i);
        }
        due("split of one cell", d.split(0), IntervalClocks.FULL);
        due("split of one cell", d.split(5), IntervalClocks.FULL);
        due("parties() after a refused split", d.parties(), 63);
        due("cells(0) after a refused split", d.cells(0), 1);
        due("split of two cells", d.split(4), 6);
        due("split of no party", d.split(7), IntervalClocks.BAD);
        due("split of a note", d.split(8), IntervalClocks.BAD);
        for (int a : NOT_IN_RANGE) {
            due("split(" + a + ")", d.split(a), IntervalClocks.BAD);
        }
        due("parties() after refused splits", d.parties(), 127);
    }

    private static void joinUnites() {
        IntervalClocks c = withEvents(64);
        c.split(0);
        c.split(0);
        c.event(0);
        c.note(0, 0);
        c.event(1);
        c.note(1, 1);
        due("join(1, 0)", c.join(1, 0), 24);
        due("cells(1)", c.cells(1), 24);
        due("cells(0)", c.cells(0), IntervalClocks.BAD);
        due("parties()", c.parties(), 6);
        due("what the joined one knew", c.compare(8, 1), IntervalClocks.BEHIND);
        due("what the staying one knew", c.compare(9, 1), IntervalClocks.BEHIND);
        due("the third one", c.compare(2, 1), IntervalClocks.BEHIND);
        due("events()", c.events(), 66);
        due("join(1, 2)", c.join(1, 2), 32);
        due("parties()", c.parties(), 2);
    }

    private static void joinRefuses() {
        IntervalClocks c = new IntervalClocks();
        c.split(0);
        c.note(0, 0);
        due("join(0, 0)", c.join(0, 0), IntervalClocks.BAD);
        due("join(2, 2)", c.join(2, 2), IntervalClocks.BAD);
        due("join(0, 2)", c.join(0, 2), IntervalClocks.BAD);
        due("join(2, 0)", c.join(2, 0), IntervalClocks.BAD);
        due("join with a note", c.join(0, 8), IntervalClocks.BAD);
        due("join of a note", c.join(8, 0), IntervalClocks.BAD);
        for (int a : NOT_IN_RANGE) {
            due("join(" + a + ", 0)", c.join(a, 0), IntervalClocks.BAD);
            due("join(0, " + a + ")", c.join(0, a), IntervalClocks.BAD);
            due("join(" + a + ", " + a + ")", c.join(a, a), IntervalClocks.BAD);
        }
        due("parties() after refused joins", c.parties(), 3);
        due("cells(0) after refused joins", c.cells(0), 16);
        due("cells(1) after refused joins", c.cells(1), 16);
        due("notes() after refused joins", c.notes(), 1);
    }

    private static void joinedSlotStartsAnew() {
        IntervalClocks c = new IntervalClocks();
        c.split(0);
        c.split(0);
        c.event(1);
        due("join(2, 1)", c.join(2, 1), 24);
        due("split(0)", c.split(0), 1);
        due("the new party knows only what 0 knows", c.compare(0, 1), IntervalClocks.SAME);
        due("the new party knows not what the gone one knew", c.compare(1, 2), IntervalClocks.BEHIND);
        due("cells(1)", c.cells(1), 4);
    }

    private static void eventCounts() {
        IntervalClocks c = new IntervalClocks();
        c.split(0);
        due("event(0)", c.event(0), 1);
        due("compare(0, 1)", c.compare(0, 1), IntervalClocks.AHEAD);
        due("event(1)", c.event(1), 2);
        due("compare(0, 1)", c.compare(0, 1), IntervalClocks.APART);
        due("event(1)", c.event(1), 3);
        due("join(0, 1)", c.join(0, 1), 32);
        due("event(0) after a join", c.event(0), 4);
    }

    private static void eventRefuses() {
        IntervalClocks c = withEvents(99);
        due("split(0)", c.split(0), 1);
        for (int a : NOT_IN_RANGE) {
            due("event(" + a + ")", c.event(a), IntervalClocks.BAD);
        }
        for (int a = 2; a < 8; a++) {
            due("event of no party", c.event(a), IntervalClocks.BAD);
        }
        c.note(0, 0);
        due("event at a note", c.event(8), IntervalClocks.BAD);
        due("events() after refused ones", c.events(), 99);
        due("the 100th event", c.event(1), 100);
        due("the 101st event", c.event(0), IntervalClocks.FULL);
        due("events() after it", c.events(), 100);
        due("a refused event is not known", c.compare(0, 8), IntervalClocks.SAME);
        due("compare(0, 1)", c.compare(0, 1), IntervalClocks.BEHIND);
    }

    /** Each of the 100 events must count as one of its own, whichever number it bears. */
    private static void eventsAreAllApart() {
        IntervalClocks c = new IntervalClocks();
        c.split(0);
        for (int i = 1; i <= 50; i++) {
            due("event(0)", c.event(0), 2 * i - 1);
            due("event(1)", c.event(1), 2 * i);
            due("after event " + 2 * i, c.compare(0, 1), IntervalClocks.APART);
            due("tell(0, 1) after event " + 2 * i, c.tell(0, 1), 1);
            due("tell(1, 0) after event " + 2 * i, c.tell(1, 0), 1);
            due("told after event " + 2 * i, c.compare(0, 1), IntervalClocks.SAME);
        }
    }

    private static void tellTeaches() {
        IntervalClocks c = new IntervalClocks();
        c.split(0);
        c.split(0);
        c.event(0);
        c.event(1);
        due("tell(0, 1)", c.tell(0, 1), 1);
        due("the told one knows more", c.compare(0, 1), IntervalClocks.BEHIND);
        due("tell(0, 1) again", c.tell(0, 1), 0);
        due("tell(2, 1), 2 knows nothing", c.tell(2, 1), 0);
        due("the third one learns through the second", c.tell(1, 2), 1);
        due("compare(1, 2)", c.compare(1, 2), IntervalClocks.SAME);
        due("tell(0, 2)", c.tell(0, 2), 0);
        c.note(2, 7);
        due("told by a note", c.tell(15, 0), 1);
        due("told by a note again", c.tell(15, 0), 0);
        due("compare(0, 15)", c.compare(0, 15), IntervalClocks.SAME);
        c.event(0);
        due("an older note teaches nothing", c.tell(15, 0), 0);
        due("and takes nothing away", c.compare(0, 15), IntervalClocks.AHEAD);
        due("events() after telling", c.events(), 3);
    }

    private static void tellRefuses() {
        IntervalClocks c = new IntervalClocks();
        c.split(0);
        c.event(0);
        c.note(0, 0);
        due("tell(0, 0)", c.tell(0, 0), IntervalClocks.BAD);
        due("tell(5, 5)", c.tell(5, 5), IntervalClocks.BAD);
        due("tell(8, 8)", c.tell(8, 8), IntervalClocks.BAD);
        due("tell(2, 0)", c.tell(2, 0), IntervalClocks.BAD);
        due("tell(0, 2)", c.tell(0, 2), IntervalClocks.BAD);
        due("a note is told", c.tell(0, 8), IntervalClocks.BAD);
        for (int x : NOT_IN_RANGE) {
            due("tell(" + x + ", 0)", c.tell(x, 0), IntervalClocks.BAD);
            due("tell(0, " + x + ")", c.tell(0, x), IntervalClocks.BAD);
        }
        due("nobody has learned", c.compare(1, 0), IntervalClocks.BEHIND);
        due("parties()", c.parties(), 3);
    }

    private static void noteKeeps() {
        IntervalClocks c = withEvents(65);
        c.split(0);
        due("note(0, 0)", c.note(0, 0), true);
        due("note(1, 7)", c.note(1, 7), true);
        due("compare(8, 0)", c.compare(8, 0), IntervalClocks.SAME);
        due("compare(8, 15)", c.compare(8, 15), IntervalClocks.SAME);
        c.event(0);
        due("the note stays as it was", c.compare(8, 0), IntervalClocks.BEHIND);
        c.event(1);
        due("note(1, 0) in place of the old one", c.note(1, 0), true);
        due("compare(8, 1)", c.compare(8, 1), IntervalClocks.SAME);
        due("compare(8, 0)", c.compare(8, 0), IntervalClocks.APART);
        due("note(1, 0) leaves note 7 as it was", c.compare(15, 0), IntervalClocks.BEHIND);
        c.join(0, 1);
        due("the note outlives its party", c.compare(8, 0), IntervalClocks.BEHIND);
    }

    private static void noteForgetsWhatItHeld() {
        IntervalClocks c = new IntervalClocks();
        c.split(0);
        c.event(0);
        due("note(0, 3)", c.note(0, 3), true);
        due("note(1, 3), of one that knows less", c.note(1, 3), true);
        due("compare(11, 1)", c.compare(11, 1), IntervalClocks.SAME);
        due("compare(11, 0)", c.compare(11, 0), IntervalClocks.BEHIND);
    }

    private static void noteRefuses() {
        IntervalClocks c = withEvents(1);
        due("note of no party", c.note(1, 0), false);
        due("note(0, 8)", c.note(0, 8), false);
        due("note(0, 15)", c.note(0, 15), false);
        due("note(8, 0)", c.note(8, 0), false);
        for (int n : NOT_IN_RANGE) {
            due("note(0, " + n + ")", c.note(0, n), false);
            due("note(" + n + ", 0)", c.note(n, 0), false);
        }
        due("notes() after refused ones", c.notes(), 0);
        due("note(0, 2)", c.note(0, 2), true);
        due("note(10, 3), of a note", c.note(10, 3), false);
        due("note(1, 2)", c.note(1, 2), false);
        due("a refused note leaves the old one", c.compare(10, 0), IntervalClocks.SAME);
        due("notes()", c.notes(), 4);
    }

    private static void noteOfNothingKnown() {
        IntervalClocks c = new IntervalClocks();
        due("note(0, 4)", c.note(0, 4), true);
        due("notes()", c.notes(), 16);
        due("compare(0, 12)", c.compare(0, 12), IntervalClocks.SAME);
        due("everywhere(4)", c.everywhere(4), true);
        due("tell(12, 0)", c.tell(12, 0), 0);
        due("behind(12)", c.behind(12), 1 + (1 << 12));
        due("erase(4)", c.erase(4), true);
    }

    private static void eraseEmpties() {
        IntervalClocks c = withEvents(1);
        for (int n = 0; n < 8; n++) {
            due("erase(" + n + ") of an empty one", c.erase(n), false);
            due("note(0, " + n + ")", c.note(0, n), true);
        }
        for (int n = 0; n < 8; n++) {
            due("erase(" + n + ")", c.erase(n), true);
            due("erase(" + n + ") again", c.erase(n), false);
            due("notes()", c.notes(), 255 & ~((2 << n) - 1));
        }
        c.note(0, 0);
        due("erase(8)", c.erase(8), false);
        due("erase(-8)", c.erase(-8), false);
        for (int n : NOT_IN_RANGE) {
            due("erase(" + n + ")", c.erase(n), false);
        }
        due("parties() after refused ones", c.parties(), 1);
        due("notes() after refused ones", c.notes(), 1);
        due("an erased note can be written again", c.note(0, 5), true);
        due("compare(13, 0)", c.compare(13, 0), IntervalClocks.SAME);
    }

    private static void partiesAreBits() {
        IntervalClocks c = eightParties();
        due("parties()", c.parties(), 255);
        c.join(3, 0);
        due("parties() without 0", c.parties(), 254);
        c.join(3, 7);
        due("parties() without 0 and 7", c.parties(), 126);
        c.note(3, 0);
        due("notes are no parties", c.parties(), 126);
    }

    private static void notesAreBits() {
        IntervalClocks c = new IntervalClocks();
        c.note(0, 0);
        due("notes()", c.notes(), 1);
        c.note(0, 7);
        due("notes()", c.notes(), 129);
        c.note(0, 7);
        due("notes() after rewriting", c.notes(), 129);
        c.erase(0);
        due("notes()", c.notes(), 128);
    }

    private static void eventsCountsAll() {
        IntervalClocks c = new IntervalClocks();
        c.split(0);
        c.event(0);
        c.event(1);
        c.event(2);
        due("events()", c.events(), 2);
        c.join(0, 1);
        due("events() after a join", c.events(), 2);
        c.note(0, 0);
        c.tell(8, 0);
        due("events() after a note", c.events(), 2);
    }

    private static void cellsOfAll() {
        IntervalClocks c = new IntervalClocks();
        c.split(0);
        c.split(1);
        c.split(2);
        int[] want = {16, 8, 4, 4, -1, -1, -1, -1, -1, -1};
        c.note(0, 0);
        for (int a = 0; a < want.length; a++) {
            due("cells(" + a + ")", c.cells(a), want[a]);
        }
        for (int a : NOT_IN_RANGE) {
            due("cells(" + a + ")", c.cells(a), IntervalClocks.BAD);
        }
    }

    private static void compareAnswersFour() {
        IntervalClocks c = withEvents(60);
        c.split(0);
        c.note(0, 0);
        for (int i = 0; i < 10; i++) {
            c.event(0);
        }
        c.note(0, 1);
        due("compare(0, 0)", c.compare(0, 0), IntervalClocks.SAME);
        due("compare(8, 8)", c.compare(8, 8), IntervalClocks.SAME);
        due("compare(0, 9)", c.compare(0, 9), IntervalClocks.SAME);
        due("compare(1, 8)", c.compare(1, 8), IntervalClocks.SAME);
        due("compare(1, 0)", c.compare(1, 0), IntervalClocks.BEHIND);
        due("compare(0, 1)", c.compare(0, 1), IntervalClocks.AHEAD);
        due("compare(8, 9)", c.compare(8, 9), IntervalClocks.BEHIND);
        due("compare(9, 8)", c.compare(9, 8), IntervalClocks.AHEAD);
        c.event(1);
        due("compare(1, 0)", c.compare(1, 0), IntervalClocks.APART);
        due("compare(9, 1)", c.compare(9, 1), IntervalClocks.APART);
        due("compare(1, 8)", c.compare(1, 8), IntervalClocks.AHEAD);
    }

    private static void compareRefuses() {
        IntervalClocks c = new IntervalClocks();
        c.note(0, 0);
        for (int x = 1; x < 16; x++) {
            if (x != 8) {
                due("compare(0, " + x + ")", c.compare(0, x), IntervalClocks.BAD);
                due("compare(" + x + ", 8)", c.compare(x, 8), IntervalClocks.BAD);
                due("compare(" + x + ", " + x + ")", c.compare(x, x), IntervalClocks.BAD);
            }
        }
        for (int x : NOT_IN_RANGE) {
            due("compare(0, " + x + ")", c.compare(0, x), IntervalClocks.BAD);
            due("compare(" + x + ", 0)", c.compare(x, 0), IntervalClocks.BAD);
            due("compare(" + x + ", " + x + ")", c.compare(x, x), IntervalClocks.BAD);
        }
    }

    private static void behindListsAll() {
        IntervalClocks c = new IntervalClocks();
        c.split(0);
        c.split(0);
        due("behind(1), all know nothing", c.behind(1), 7);
        c.event(0);
        c.note(0, 0);
        c.event(0);
        c.event(1);
        c.note(1, 7);
        due("behind(0)", c.behind(0), 1 | 4 | 1 << 8);
        due("behind(1)", c.behind(1), 2 | 4 | 1 << 15);
        due("behind(2)", c.behind(2), 4);
        due("behind(8)", c.behind(8), 4 | 1 << 8);
        due("behind(15)", c.behind(15), 2 | 4 | 1 << 15);
        due("behind(3)", c.behind(3), 0);
        due("behind(9)", c.behind(9), 0);
        for (int x : NOT_IN_RANGE) {
            due("behind(" + x + ")", c.behind(x), 0);
        }
        c.join(0, 2);
        due("behind(0) after a join", c.behind(0), 1 | 1 << 8);
        c.erase(0);
        due("behind(0) after erasing", c.behind(0), 1);
    }

    private static void newestAreNotOutdone() {
        IntervalClocks c = new IntervalClocks();
        c.split(0);
        due("newest(), both the same", c.newest(), 3);
        c.event(0);
        due("newest()", c.newest(), 1);
        c.note(0, 0);
        due("newest(), a note the same", c.newest(), 1 | 1 << 8);
        c.event(1);
        due("newest(), two apart", c.newest(), 3 | 1 << 8);
        c.event(0);
        due("newest(), the note outdone", c.newest(), 3);
        c.tell(0, 1);
        due("newest(), the told one", c.newest(), 2);
        c.note(1, 7);
        due("newest(), the last note the same", c.newest(), 2 | 1 << 15);
        c.erase(7);
        due("newest(), the last note erased", c.newest(), 2);
        c.join(0, 1);
        due("newest(), one party left", c.newest(), 1);
    }

    private static void everywhereAsksAllParties() {
        IntervalClocks c = new IntervalClocks();
        c.split(0);
        c.split(0);
        c.event(0);
        c.note(0, 0);
        c.note(0, 7);
        due("everywhere(0)", c.everywhere(0), false);
        c.tell(0, 1);
        due("everywhere(0)", c.everywhere(0), false);
        c.tell(1, 2);
        due("everywhere(0)", c.everywhere(0), true);
        due("everywhere(7)", c.everywhere(7), true);
        c.event(1);
        c.event(2);
        due("everywhere(0), all ahead", c.everywhere(0), true);
        c.note(2, 0);
        due("everywhere(0)", c.everywhere(0), false);
        c.tell(2, 0);
        c.join(2, 1);
        due("everywhere(0), the one that missed it has joined", c.everywhere(0), true);
        due("everywhere(1)", c.everywhere(1), false);
        due("everywhere(8)", c.everywhere(8), false);
        due("everywhere(-8)", c.everywhere(-8), false);
        for (int n : NOT_IN_RANGE) {
            due("everywhere(" + n + ")", c.everywhere(n), false);
        }
        c.erase(0);
        due("everywhere(0), erased", c.everywhere(0), false);
        IntervalClocks d = new IntervalClocks();
        d.split(0);
        d.note(0, 1);
        d.event(0);
        d.note(0, 2);
        due("other notes are not asked", d.everywhere(1), true);
        d.tell(0, 1);
        due("older notes are not asked", d.everywhere(2), true);
    }

    private static void apartPairsCounts() {
        IntervalClocks c = eightParties();
        due("apartPairs(), all the same", c.apartPairs(), 0);
        for (int a = 0; a < 8; a++) {
            c.event(a);
            due("apartPairs()", c.apartPairs(), a * (a + 1) / 2);
        }
        for (int n = 0; n < 8; n++) {
            c.note(n, n);
        }
        due("apartPairs() of sixteen", c.apartPairs(), 120 - 8);
        c.erase(7);
        due("apartPairs() of fifteen", c.apartPairs(), 105 - 7);
        c.join(0, 7);
        due("apartPairs() of fourteen", c.apartPairs(), 91 - 7);
    }

    private static void emptyNotesAreNotThere() {
        IntervalClocks c = withEvents(1);
        for (int x = 8; x < 16; x++) {
            due("tell of an empty note", c.tell(x, 0), IntervalClocks.BAD);
            due("compare with an empty note", c.compare(0, x), IntervalClocks.BAD);
            due("compare of an empty note", c.compare(x, 0), IntervalClocks.BAD);
            due("behind of an empty note", c.behind(x), 0);
            due("tell to a note", c.tell(0, x), IntervalClocks.BAD);
            c.note(0, x - 8);
            due("tell of a written note", c.tell(x, 0), 0);
            due("tell to a written note", c.tell(0, x), IntervalClocks.BAD);
            c.erase(x - 8);
            due("tell of an erased note", c.tell(x, 0), IntervalClocks.BAD);
            due("compare with an erased note", c.compare(0, x), IntervalClocks.BAD);
            due("behind of an erased note", c.behind(x), 0);
        }
        due("erased notes are not newest", c.newest(), 1);
        due("erased notes are behind nobody", c.behind(0), 1);
    }

    private static void badComesBeforeFull() {
        IntervalClocks c = withEvents(100);
        due("event of no party", c.event(1), IntervalClocks.BAD);
        due("event(8)", c.event(8), IntervalClocks.BAD);
        due("event(-1)", c.event(-1), IntervalClocks.BAD);
        due("event(0)", c.event(0), IntervalClocks.FULL);
        IntervalClocks d = eightParties();
        due("split(8) with eight parties", d.split(8), IntervalClocks.BAD);
        due("split(-1) with eight parties", d.split(-1), IntervalClocks.BAD);
        due("split(7) with eight parties", d.split(7), IntervalClocks.FULL);
    }
}
