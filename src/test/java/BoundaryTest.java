import java.util.function.Consumer;
import java.util.stream.IntStream;

/**
 * A test of its own for each sentence of the document that names a boundary case: too small, too large, empty,
 * full, a wrap-around, a refused call. Each is announced by the words of the document that it holds to.
 */
public final class BoundaryTest {
    private static final int BAD = IntervalClocks.BAD;
    private static final int FULL = IntervalClocks.FULL;
    private static final int SAME = IntervalClocks.SAME;
    private static final int BEHIND = IntervalClocks.BEHIND;
    private static final int AHEAD = IntervalClocks.AHEAD;
    private static final int APART = IntervalClocks.APART;
    private static final int ALLOWED_CALLS = 512;
    /** One broken sentence should not hide the others. */
    private static final int MOST_SHOWN = 5;

    /** Numbers that are no party's and no note's, many of which turn into one when bits of them are lost. */
    private static final int[] NO_SLOT = outsideOf(8, 8, 24);
    /** The same for calls that take parties and notes in one range. */
    private static final int[] NO_HOLDER = outsideOf(16, 16, 48);

    private static String sentence = "";
    private static int sentences = 0;
    private static int wrong = 0;
    private static int wrongInSentence = 0;

    public static void main(String[] args) {
        whatItIsAndTerms();
        newObject();
        partyCalls();
        tellCalls();
        noteCalls();
        countingCalls();
        comparingCalls();
        orderAndLimits();
        System.out.println(sentences + " sentences, " + wrong + " answers that are not as due");
        if (wrong != 0) {
            System.exit(1);
        }
    }

    private static void whatItIsAndTerms() {
        test("What it is: at most 512 calls", BoundaryTest::lastAllowedCall);
        test("What it is: what later calls answer is free (and LANGUAGE.md, rule 7)", BoundaryTest::laterCallsEnd);
        test("Terms: at most eight PARTIES, in the slots 0 .. 7", BoundaryTest::eightParties);
        test("Terms: at first there is one, in slot 0", BoundaryTest::onePartyAtFirst);
        test("Terms: at most 100 happen", BoundaryTest::eachOfHundredEventsCounts);
        test("Terms: no two parties share one, and all are had by somebody", BoundaryTest::cellsAddUp);
        test("Terms: The first party has them all", BoundaryTest::firstPartyHasAllCells);
        test("Terms: keeps n - n / 2 (n / 2 rounded down) and gives n / 2", BoundaryTest::everyNumberOfCellsSplits);
        test("Terms: A party that joins another one gets its cells", BoundaryTest::everyNumberOfCellsJoins);
        test("Terms: There are eight NOTES 0 .. 7", BoundaryTest::eightNotes);
        test("Terms: a note holds what a party knew when it was written", BoundaryTest::noteKeepsToItsTime);
        test("Terms: BEHIND when everything that X knows is known", BoundaryTest::oneMissingEventCounts);
        test("Terms: BEHIND, of one that knows nothing", BoundaryTest::knowingNothingIsBehindAll);
        test("Terms: parties are 0 .. 7, and notes are written as 8 .. 15", BoundaryTest::partiesEndWhereNotesBegin);
    }

    private static void newObject() {
        test("1: One party in slot 0", BoundaryTest::newObjectHasOneParty);
        test("1: that knows nothing", BoundaryTest::newPartyKnowsNothing);
        test("1: no notes", BoundaryTest::newObjectHasNoNotes);
    }

    private static void partyCalls() {
        test("2: answers the least free slot", BoundaryTest::splitTakesLeastFreeSlot);
        test("2: BAD when there is no party a", BoundaryTest::splitOfNoParty);
        test("2: FULL, changing nothing, when there are eight", BoundaryTest::splitOfEight);
        test("2: FULL, changing nothing, when a has only one cell", BoundaryTest::splitOfOneCell);
        test("2: FULL, when there are eight and a has only one cell", BoundaryTest::splitOfEightAndOneCell);
        test("2: two cells are enough", BoundaryTest::splitOfTwoCells);
        test("3: Party b joins party a and is gone", BoundaryTest::joinedOneIsGone);
        test("3: answers the number of cells a has then", BoundaryTest::leastAndGreatestJoin);
        test("3: BAD when a = b", BoundaryTest::joinOfItself);
        test("3: BAD when one is not there", BoundaryTest::joinOfNoParty);
        test("4: answers the number of events so far", BoundaryTest::eventAnswersUpToHundred);
        test("4: BAD when there is no party a", BoundaryTest::eventOfNoParty);
        test("4: FULL, changing nothing, when 100 have happened", BoundaryTest::eventAfterHundred);
    }

    private static void tellCalls() {
        test("5: whether b has learned of any event: 1", BoundaryTest::tellOfOneEvent);
        test("5: whether b has learned of any event: 0", BoundaryTest::tellOfNothingNew);
        test("5: BAD when x is not there", BoundaryTest::tellOfNobody);
        test("5: BAD when b is not there", BoundaryTest::tellToNobody);
        test("5: BAD when x = b", BoundaryTest::tellToItself);
        test("5: a note written as 8 + b is not b", BoundaryTest::tellOfNoteWithSameNumber);
    }

    private static void noteCalls() {
        test("6: into note n (0 .. 7)", BoundaryTest::firstAndLastNote);
        test("6: in place of what it held", BoundaryTest::noteTakesThePlace);
        test("6: false when there is no party a", BoundaryTest::noteOfNoParty);
        test("6: false when there is no such note", BoundaryTest::noteIntoNoNote);
        test("7: Empties note n", BoundaryTest::eraseEmptiesOne);
        test("7: false when it holds nothing", BoundaryTest::eraseOfEmptyNote);
        test("7: false when it is not 0 .. 7", BoundaryTest::eraseOfNoNote);
    }

    private static void countingCalls() {
        test("8: bit a for party a", BoundaryTest::eachPartyAlone);
        test("9: bit n for note n", BoundaryTest::eachNoteAlone);
        test("9: The notes that hold something", BoundaryTest::noNotesAndAllNotes);
        test("10: The number of events that have happened", BoundaryTest::noEventsAndAllEvents);
        test("11: The number of cells of party a", BoundaryTest::fewestAndMostCells);
        test("11: BAD when there is none", BoundaryTest::cellsOfNoParty);
    }

    private static void comparingCalls() {
        test("12: SAME when each is behind the other", BoundaryTest::compareSame);
        test("12: BEHIND, AHEAD, else APART, by one event", BoundaryTest::compareByOneEvent);
        test("12: BAD when one is not there", BoundaryTest::compareOfNobody);
        test("12: BAD when one holds nothing", BoundaryTest::compareOfEmptyNote);
        test("13: x among them", BoundaryTest::behindItself);
        test("13: bit 0 .. 15", BoundaryTest::behindOfAllSixteen);
        test("13: 0 when x is not there", BoundaryTest::behindOfNobody);
        test("13: 0 when x holds nothing", BoundaryTest::behindOfEmptyNote);
        test("14: bit 0 .. 15", BoundaryTest::newestOfAllSixteen);
        test("14: behind no other one that is not behind them", BoundaryTest::newestAtItsEdges);
        test("15: Whether every party knows everything", BoundaryTest::everywhereButAtOne);
        test("15: every party, when there is but one", BoundaryTest::everywhereWithOneParty);
        test("15: everything that note n holds, when that is no event", BoundaryTest::everywhereOfNoEvent);
        test("15: false when it holds nothing", BoundaryTest::everywhereOfEmptyNote);
        test("15: false when it is not 0 .. 7", BoundaryTest::everywhereOfNoNote);
        test("16: The number of pairs, none", BoundaryTest::noPairsApart);
        test("16: The number of pairs x < y of parties and notes, as many as can be", BoundaryTest::mostPairsApart);
    }

    private static void orderAndLimits() {
        test("17: tell: a note that holds nothing is not there", BoundaryTest::tellOfEmptyNote);
        test("17: compare: a note that holds nothing is not there", BoundaryTest::compareOfErasedNote);
        test("17: behind: a note that holds nothing is not there", BoundaryTest::emptyNoteIsBehindNobody);
        test("17: tell answers BAD for b that is not 0 .. 7", BoundaryTest::tellToNotes);
        test("17: split: BAD is tested before FULL", BoundaryTest::splitTestsBadFirst);
        test("17: event: BAD is tested before FULL", BoundaryTest::eventTestsBadFirst);
    }

    // What it is, and terms

    private static void lastAllowedCall() {
        run(BoundaryTest::longUse).event(0, 100);
        run(BoundaryTest::longUse).split(0, 1);
        run(BoundaryTest::longUse).join(0, 1, BAD);
        run(BoundaryTest::longUse).tell(8, 0, 0);
        run(BoundaryTest::longUse).note(0, 7, true);
        run(BoundaryTest::longUse).erase(0, true);
        run(BoundaryTest::longUse).parties(1);
        run(BoundaryTest::longUse).notes(1);
        run(BoundaryTest::longUse).events(99);
        run(BoundaryTest::longUse).cells(0, 32);
        run(BoundaryTest::longUse).compare(8, 0, BEHIND);
        run(BoundaryTest::longUse).behind(0, 1 | 1 << 8);
        run(BoundaryTest::longUse).newest(1);
        run(BoundaryTest::longUse).everywhere(0, true);
        run(BoundaryTest::longUse).apartPairs(0);
        expect("calls made", run(BoundaryTest::longUse).events(99).calls, ALLOWED_CALLS);
    }

    private static void laterCallsEnd() {
        IntervalClocks clocks = new IntervalClocks();
        for (int i = 0; i < 5000; i++) {
            int p = NO_HOLDER[i % NO_HOLDER.length] & (i % 3 == 0 ? -1 : 15);
            int q = i * 31 % 19 - 1;
            clocks.split(p);
            clocks.event(q);
            clocks.tell(p, q);
            clocks.note(q, p);
            clocks.erase(p);
            clocks.join(q, p);
            clocks.cells(p);
            clocks.compare(p, q);
            clocks.behind(p);
            clocks.everywhere(q);
            clocks.parties();
            clocks.notes();
            clocks.events();
            clocks.newest();
            clocks.apartPairs();
        }
    }

    private static void eightParties() {
        Run run = run();
        int[] splitters = {0, 0, 1, 0, 1, 2, 3};
        for (int i = 0; i < splitters.length; i++) {
            run.split(splitters[i], i + 1).parties((4 << i) - 1);
        }
        run.split(0, FULL).parties(255);
    }

    private static void onePartyAtFirst() {
        Run run = run().parties(1).cells(0, 32);
        for (int a = 1; a < 8; a++) {
            run.cells(a, BAD).event(a, BAD).split(a, BAD);
        }
    }

    private static void eachOfHundredEventsCounts() {
        for (int number = 1; number <= 100; number++) {
            Run run = run().split(0, 1).events(0, 1, number - 1).note(0, 0, true);
            if (number > 1) {
                run.tell(0, 1, 1);
            }
            run.compare(0, 1, SAME).event(1, number).compare(0, 1, BEHIND).compare(8, 1, BEHIND).compare(8, 0, SAME);
            run.tell(1, 0, 1).compare(0, 1, SAME).compare(8, 0, BEHIND);
        }
    }

    private static void cellsAddUp() {
        Run run = run().addUp();
        for (int slot = 1; slot <= 5; slot++) {
            run.split(0, slot).addUp();
        }
        run.split(0, FULL).addUp().split(7, BAD).addUp().split(1, 6).addUp().split(2, 7).addUp().split(3, FULL).addUp();
        run.join(3, 0, 5).addUp().join(3, 3, BAD).addUp().join(3, 0, BAD).addUp().split(3, 0).addUp();
        run.join(7, 6, 12).addUp().join(7, 5, 13).addUp().split(7, 5).addUp().join(0, 7, 9).addUp();
    }

    private static void firstPartyHasAllCells() {
        run().cells(0, 32).split(0, 1).join(1, 0, 32).cells(1, 32).cells(0, BAD);
    }

    private static void everyNumberOfCellsSplits() {
        for (int n = 2; n <= 32; n++) {
            Run run = run();
            int a = run.partyOfCells(n);
            int slot = run.leastFree();
            run.split(a, slot).cells(a, n - n / 2).cells(slot, n / 2).addUp();
        }
        run().split(0, 1).split(0, 2).split(0, 3).split(0, 4).join(0, 3, 6).split(0, 3).cells(0, 3).cells(3, 3)
            .split(0, 5).cells(0, 2).cells(5, 1).split(0, 6).cells(0, 1).cells(6, 1);
    }

    private static void everyNumberOfCellsJoins() {
        for (int n = 1; n <= 31; n++) {
            Run run = run();
            int a = run.partyOfCells(n);
            int other = run.anotherThan(a);
            int both = n + run.cellsOf(other);
            run.join(other, a, both).cells(other, both).cells(a, BAD).addUp();
        }
    }

    private static void eightNotes() {
        Run run = run();
        for (int n = 0; n < 8; n++) {
            run.notes((1 << n) - 1).event(0, n + 1).note(0, n, true);
        }
        run.notes(255).note(0, 8, false).note(0, -1, false).notes(255);
        for (int n = 0; n < 8; n++) {
            run.behind(8 + n, ((2 << n) - 1 << 8) | (n == 7 ? 1 : 0));
        }
    }

    private static void noteKeepsToItsTime() {
        run().note(0, 0, true).event(0, 1).compare(8, 0, BEHIND);
        run().split(0, 1).note(0, 0, true).event(1, 1).tell(1, 0, 1).compare(8, 0, BEHIND);
        run().split(0, 1).note(0, 0, true).event(1, 1).join(0, 1, 32).compare(8, 0, BEHIND);
        run().split(0, 1).split(0, 2).event(1, 1).note(1, 0, true).join(2, 1, 24).compare(8, 2, SAME)
            .split(0, 1).compare(8, 1, AHEAD).event(1, 2).compare(8, 1, APART).compare(8, 2, SAME);
    }

    private static void oneMissingEventCounts() {
        for (int missed = 1; missed <= 100; missed++) {
            Run run = run().split(0, 1).events(0, 1, missed - 1);
            if (missed > 1) {
                run.tell(0, 1, 1);
            }
            run.event(0, missed).note(0, 0, true).events(1, missed + 1, 100).note(1, 1, true);
            run.compare(0, 1, missed == 100 ? AHEAD : APART).compare(8, 9, missed == 100 ? AHEAD : APART);
            run.tell(8, 1, 1).compare(0, 1, missed == 100 ? SAME : BEHIND);
        }
    }

    private static void knowingNothingIsBehindAll() {
        run().note(0, 0, true).split(0, 1).split(0, 2).event(1, 1).event(2, 2).note(2, 7, true)
            .compare(0, 1, BEHIND).compare(0, 15, BEHIND).compare(2, 0, AHEAD).compare(0, 8, SAME).compare(8, 1, BEHIND)
            .behind(0, 1 | 1 << 8).behind(1, 1 | 2 | 1 << 8).behind(8, 1 | 1 << 8);
    }

    private static void partiesEndWhereNotesBegin() {
        Run run = run(BoundaryTest::eightApart).erase(7, true).event(7, 9).note(7, 7, true).note(0, 6, true);
        run.compare(7, 15, SAME).compare(0, 8, SAME).compare(0, 14, SAME).compare(7, 8, APART);
        run.compare(15, 16, BAD).compare(7, -1, BAD).behind(15, 1 << 7 | 1 << 15).behind(16, 0);
        run.tell(15, 0, 1).tell(8, 7, 1).tell(7, 8, BAD).tell(16, 0, BAD);
        run.event(8, BAD).cells(8, BAD).split(8, BAD).join(7, 8, BAD).note(8, 0, false).erase(8, false);
        run.everywhere(8, false).event(7, 10);
    }

    // Promise 1

    private static void newObjectHasOneParty() {
        run().parties(1).cells(0, 32).events(0).newest(1).behind(0, 1).apartPairs(0).compare(0, 0, SAME);
    }

    private static void newPartyKnowsNothing() {
        run().split(0, 1).event(1, 1).tell(0, 1, 0).compare(0, 1, BEHIND);
        Run run = run().split(0, 1);
        for (int number = 1; number <= 100; number++) {
            run.event(1, number).tell(1, 0, 1);
        }
    }

    private static void newObjectHasNoNotes() {
        Run run = run().notes(0);
        for (int n = 0; n < 8; n++) {
            run.erase(n, false).everywhere(n, false).behind(8 + n, 0).compare(0, 8 + n, BAD).tell(8 + n, 0, BAD);
        }
    }

    // Promise 2

    private static void splitTakesLeastFreeSlot() {
        for (int gone = 0; gone < 8; gone++) {
            int staying = gone == 0 ? 1 : 0;
            run(BoundaryTest::eightApart).join(staying, gone, 8).split(staying, gone).parties(255);
        }
        for (int low = 0; low < 6; low++) {
            for (int high = low + 1; high < 7; high++) {
                run(BoundaryTest::eightApart).join(7, high, 8).join(7, low, 12).split(7, low).split(7, high)
                    .parties(255).split(7, FULL);
            }
        }
    }

    private static void splitOfNoParty() {
        for (int a : NO_SLOT) {
            changesNothing(BoundaryTest::mixed, run -> run.split(a, BAD));
        }
        for (int a : new int[] {1, 4, 5, 6, 7}) {
            changesNothing(BoundaryTest::mixed, run -> run.split(a, BAD));
        }
        changesNothing(BoundaryTest::nothing, run -> run.split(1, BAD));
        changesNothing(BoundaryTest::nothing, run -> run.split(-1, BAD));
    }

    private static void splitOfEight() {
        for (int a = 0; a < 8; a++) {
            int splitting = a;
            changesNothing(BoundaryTest::eightApart, run -> run.split(splitting, FULL));
        }
    }

    private static void splitOfOneCell() {
        changesNothing(BoundaryTest::oneCellTwice, run -> run.split(0, FULL));
        changesNothing(BoundaryTest::oneCellTwice, run -> run.split(5, FULL));
    }

    private static void splitOfEightAndOneCell() {
        changesNothing(BoundaryTest::eightWithOneCell, run -> run.split(0, FULL));
        changesNothing(BoundaryTest::eightWithOneCell, run -> run.split(5, FULL));
        changesNothing(BoundaryTest::eightWithOneCell, run -> run.split(1, FULL));
    }

    private static void splitOfTwoCells() {
        run(BoundaryTest::oneCellTwice).split(4, 6).cells(4, 1).cells(6, 1).split(4, FULL).split(6, FULL).parties(127);
    }

    // Promise 3

    private static void joinedOneIsGone() {
        for (int a = 0; a < 8; a++) {
            for (int b = 0; b < 8; b++) {
                if (a != b) {
                    Run run = run(BoundaryTest::eightApart).join(a, b, 8).parties(255 & ~(1 << b));
                    run.cells(b, BAD).event(b, BAD).split(b, BAD).join(b, a, BAD).join(a, b, BAD).tell(b, a, BAD);
                    run.tell(a, b, BAD).note(b, 0, false).compare(b, a, BAD).compare(a, b, BAD).behind(b, 0);
                    run.behind(a, 1 << a | 1 << 8 + a | 1 << 8 + b).apartPairs(105 - 8);
                    run.newest(255 - (1 << b) | 255 - (1 << a) - (1 << b) << 8);
                }
            }
        }
    }

    private static void leastAndGreatestJoin() {
        run(BoundaryTest::oneCellTwice).join(0, 5, 2).cells(0, 2);
        run(BoundaryTest::oneCellTwice).join(5, 0, 2).cells(5, 2);
        Run run = run(BoundaryTest::eightApart);
        for (int b = 0; b < 7; b++) {
            run.join(7, b, 8 + 4 * b);
        }
        run.cells(7, 32).parties(128).newest(128).behind(7, 128 | 255 << 8);
    }

    private static void joinOfItself() {
        for (int a = 0; a < 8; a++) {
            int joining = a;
            changesNothing(BoundaryTest::eightApart, run -> run.join(joining, joining, BAD));
            changesNothing(BoundaryTest::mixed, run -> run.join(joining, joining, BAD));
        }
        changesNothing(BoundaryTest::nothing, run -> run.join(0, 0, BAD));
    }

    private static void joinOfNoParty() {
        for (int a : NO_SLOT) {
            changesNothing(BoundaryTest::mixed, run -> run.join(a, 2, BAD));
            changesNothing(BoundaryTest::mixed, run -> run.join(2, a, BAD));
            changesNothing(BoundaryTest::mixed, run -> run.join(a, a, BAD));
            changesNothing(BoundaryTest::eightApart, run -> run.join(0, a, BAD));
            changesNothing(BoundaryTest::eightApart, run -> run.join(a, 7, BAD));
        }
        for (int a : new int[] {1, 4, 5, 6, 7}) {
            changesNothing(BoundaryTest::mixed, run -> run.join(a, 2, BAD));
            changesNothing(BoundaryTest::mixed, run -> run.join(2, a, BAD));
        }
        changesNothing(BoundaryTest::mixed, run -> run.join(1, 4, BAD));
        changesNothing(BoundaryTest::nothing, run -> run.join(0, 1, BAD));
        changesNothing(BoundaryTest::nothing, run -> run.join(1, 0, BAD));
    }

    // Promise 4

    private static void eventAnswersUpToHundred() {
        run().events(0).events(0, 1, 100).events(100);
        Run run = run(BoundaryTest::eightApart).events(8);
        for (int number = 9; number <= 100; number++) {
            run.event(number % 8, number).events(number);
        }
    }

    private static void eventOfNoParty() {
        for (int a : NO_SLOT) {
            changesNothing(BoundaryTest::mixed, run -> run.event(a, BAD));
        }
        for (int a : new int[] {1, 4, 5, 6, 7}) {
            changesNothing(BoundaryTest::mixed, run -> run.event(a, BAD));
        }
        changesNothing(BoundaryTest::nothing, run -> run.event(1, BAD));
    }

    private static void eventAfterHundred() {
        for (int a = 0; a < 3; a++) {
            int at = a;
            changesNothing(BoundaryTest::hundredEvents, run -> run.event(at, FULL));
        }
        run().events(0, 1, 99).split(0, 1).note(0, 0, true).event(1, 100).compare(0, 1, BEHIND).event(0, FULL)
            .compare(0, 1, BEHIND).compare(0, 8, SAME).event(0, FULL).events(100);
    }

    // Promise 5

    private static void tellOfOneEvent() {
        for (int number = 1; number <= 100; number++) {
            Run run = run().split(0, 1).split(0, 2).events(0, 1, number - 1).event(1, number);
            run.events(0, number + 1, 100).tell(1, 0, 1).tell(1, 0, 0).compare(1, 0, BEHIND);
            run.tell(1, 2, 1).tell(1, 2, 0).compare(1, 2, SAME);
        }
    }

    private static void tellOfNothingNew() {
        run().split(0, 1).tell(0, 1, 0).tell(1, 0, 0).event(0, 1).tell(1, 0, 0).compare(0, 1, AHEAD);
        run().note(0, 0, true).tell(8, 0, 0).event(0, 1).tell(8, 0, 0).compare(8, 0, BEHIND);
        run(BoundaryTest::hundredEvents).tell(0, 1, 1).tell(0, 1, 0).compare(0, 1, BEHIND).tell(8, 1, 0)
            .tell(2, 1, 1).tell(1, 0, 1).tell(2, 0, 0).compare(0, 1, SAME);
        changesNothing(BoundaryTest::mixed, run -> run.tell(8, 0, 0));
        changesNothing(BoundaryTest::mixed, run -> run.tell(15, 2, 0));
        changesNothing(BoundaryTest::hundredEvents, run -> run.tell(9, 1, 0));
    }

    private static void tellOfNobody() {
        for (int x : NO_HOLDER) {
            changesNothing(BoundaryTest::mixed, run -> run.tell(x, 2, BAD));
        }
        for (int x : new int[] {1, 4, 5, 6, 7}) {
            changesNothing(BoundaryTest::mixed, run -> run.tell(x, 2, BAD));
        }
        changesNothing(BoundaryTest::nothing, run -> run.tell(1, 0, BAD));
    }

    private static void tellToNobody() {
        for (int b : new int[] {1, 4, 5, 6, 7}) {
            changesNothing(BoundaryTest::mixed, run -> run.tell(2, b, BAD));
            changesNothing(BoundaryTest::mixed, run -> run.tell(15, b, BAD));
        }
        changesNothing(BoundaryTest::mixed, run -> run.tell(1, 4, BAD));
        changesNothing(BoundaryTest::nothing, run -> run.tell(0, 1, BAD));
    }

    private static void tellToItself() {
        for (int x = 0; x < 16; x++) {
            int telling = x;
            changesNothing(BoundaryTest::eightApart, run -> run.tell(telling, telling, BAD));
            changesNothing(BoundaryTest::mixed, run -> run.tell(telling, telling, BAD));
        }
        for (int x : NO_HOLDER) {
            changesNothing(BoundaryTest::mixed, run -> run.tell(x, x, BAD));
        }
    }

    private static void tellOfNoteWithSameNumber() {
        for (int b = 0; b < 8; b++) {
            int other = (b + 1) % 8;
            run(BoundaryTest::eightApart).tell(8 + b, b, 0).note(other, b, true).tell(8 + b, b, 1)
                .compare(8 + b, b, BEHIND).tell(8 + b, b, 0);
        }
    }

    // Promise 6

    private static void firstAndLastNote() {
        run().note(0, 0, true).notes(1).note(0, 7, true).notes(129).compare(8, 15, SAME);
        run(BoundaryTest::eightApart).note(7, 0, true).compare(8, 7, SAME).note(0, 7, true).compare(15, 0, SAME)
            .compare(9, 1, SAME).compare(14, 6, SAME);
    }

    private static void noteTakesThePlace() {
        for (int n = 0; n < 8; n++) {
            int writer = (n + 3) % 8;
            run(BoundaryTest::eightApart).note(writer, n, true).notes(255).compare(8 + n, writer, SAME)
                .compare(8 + n, n, APART).behind(n, 1 << n);
        }
        run().split(0, 1).event(0, 1).note(0, 0, true).note(1, 0, true).compare(8, 1, SAME).compare(8, 0, BEHIND);
    }

    private static void noteOfNoParty() {
        for (int a : NO_SLOT) {
            changesNothing(BoundaryTest::mixed, run -> run.note(a, 0, false));
            changesNothing(BoundaryTest::mixed, run -> run.note(a, 1, false));
        }
        for (int a : new int[] {1, 4, 5, 6, 7}) {
            changesNothing(BoundaryTest::mixed, run -> run.note(a, 7, false));
            changesNothing(BoundaryTest::mixed, run -> run.note(a, 3, false));
        }
        changesNothing(BoundaryTest::mixed, run -> run.note(1, 8, false));
    }

    private static void noteIntoNoNote() {
        for (int n : NO_SLOT) {
            changesNothing(BoundaryTest::mixed, run -> run.note(2, n, false));
            changesNothing(BoundaryTest::eightApart, run -> run.note(7, n, false));
            changesNothing(BoundaryTest::nothing, run -> run.note(0, n, false));
        }
    }

    // Promise 7

    private static void eraseEmptiesOne() {
        for (int n = 0; n < 8; n++) {
            run(BoundaryTest::eightApart).erase(n, true).notes(255 & ~(1 << n)).behind(8 + n, 0).behind(n, 1 << n)
                .parties(255).apartPairs(105 - 7).everywhere(n, false).compare(8 + n, n, BAD)
                .newest(255 | (255 & ~(1 << n)) << 8);
        }
    }

    private static void eraseOfEmptyNote() {
        for (int n : new int[] {1, 2, 3, 4}) {
            changesNothing(BoundaryTest::mixed, run -> run.erase(n, false));
        }
        for (int n = 0; n < 8; n++) {
            int erased = n;
            changesNothing(BoundaryTest::nothing, run -> run.erase(erased, false));
            changesNothing(run -> eightApart(run).erase(erased, true), run -> run.erase(erased, false));
        }
    }

    private static void eraseOfNoNote() {
        for (int n : NO_SLOT) {
            changesNothing(BoundaryTest::mixed, run -> run.erase(n, false));
            changesNothing(BoundaryTest::eightApart, run -> run.erase(n, false));
        }
    }

    // Promises 8 to 11

    private static void eachPartyAlone() {
        for (int a = 0; a < 8; a++) {
            Run run = run(BoundaryTest::eightApart).parties(255);
            int left = 255;
            int cells = 4;
            for (int b = 0; b < 8; b++) {
                if (b != a) {
                    left -= 1 << b;
                    cells += 4;
                    run.join(a, b, cells).parties(left);
                }
            }
            run.parties(1 << a);
        }
    }

    private static void eachNoteAlone() {
        for (int n = 0; n < 8; n++) {
            run().event(0, 1).note(0, n, true).notes(1 << n).erase(n, true).notes(0);
        }
    }

    private static void noNotesAndAllNotes() {
        run().notes(0).event(0, 1).notes(0).note(0, 7, true).notes(128);
        run(BoundaryTest::eightApart).notes(255).note(0, 7, true).notes(255).join(0, 7, 8).notes(255);
        run().note(0, 0, true).notes(1);
    }

    private static void noEventsAndAllEvents() {
        run().events(0).split(0, 1).tell(0, 1, 0).note(0, 0, true).events(0).event(2, BAD).events(0);
        run(BoundaryTest::hundredEvents).events(100).event(0, FULL).events(100).join(0, 1, 24).events(100);
    }

    private static void fewestAndMostCells() {
        run().cells(0, 32);
        run(BoundaryTest::oneCellTwice).cells(0, 1).cells(5, 1).cells(4, 2).cells(1, 16);
        Run run = run(BoundaryTest::eightApart);
        for (int a = 0; a < 8; a++) {
            run.cells(a, 4);
        }
    }

    private static void cellsOfNoParty() {
        for (int a : NO_SLOT) {
            changesNothing(BoundaryTest::mixed, run -> run.cells(a, BAD));
            changesNothing(BoundaryTest::eightApart, run -> run.cells(a, BAD));
        }
        run(BoundaryTest::mixed).cells(1, BAD).cells(4, BAD).cells(5, BAD).cells(6, BAD).cells(7, BAD).cells(2, 16);
    }

    // Promise 12

    private static void compareSame() {
        for (int x = 0; x < 16; x++) {
            run(BoundaryTest::eightApart).compare(x, x, SAME).compare(x, (x + 8) % 16, SAME);
            Run run = run(BoundaryTest::sixteenThatKnowNothing);
            for (int y = 0; y < 16; y++) {
                run.compare(x, y, SAME);
            }
        }
    }

    private static void compareByOneEvent() {
        run().split(0, 1).compare(0, 1, SAME).event(1, 1).compare(0, 1, BEHIND).compare(1, 0, AHEAD)
            .event(0, 2).compare(0, 1, APART).compare(1, 0, APART).tell(0, 1, 1).compare(0, 1, BEHIND);
        run().split(0, 1).events(0, 1, 99).tell(0, 1, 1).event(0, 100).compare(0, 1, AHEAD).compare(1, 0, BEHIND);
        Run run = run(BoundaryTest::eightApart);
        for (int x = 0; x < 16; x++) {
            for (int y = 0; y < 16; y++) {
                run.compare(x, y, x % 8 == y % 8 ? SAME : APART);
            }
        }
    }

    private static void compareOfNobody() {
        for (int x : NO_HOLDER) {
            for (int y : new int[] {0, 2, 15}) {
                changesNothing(BoundaryTest::mixed, run -> run.compare(x, y, BAD));
                changesNothing(BoundaryTest::mixed, run -> run.compare(y, x, BAD));
            }
            changesNothing(BoundaryTest::mixed, run -> run.compare(x, x, BAD));
        }
        for (int x : new int[] {1, 4, 5, 6, 7}) {
            run(BoundaryTest::mixed).compare(x, 2, BAD).compare(2, x, BAD).compare(x, 15, BAD).compare(x, x, BAD);
        }
    }

    private static void compareOfEmptyNote() {
        for (int x : new int[] {9, 10, 11, 12}) {
            run(BoundaryTest::mixed).compare(x, 0, BAD).compare(0, x, BAD).compare(x, 8, BAD).compare(15, x, BAD)
                .compare(x, x, BAD);
        }
    }

    // Promise 13

    private static void behindItself() {
        run().behind(0, 1).event(0, 1).behind(0, 1);
        for (int x = 0; x < 16; x++) {
            run(BoundaryTest::eightApart).behind(x, 1 << x | 1 << (x + 8) % 16);
        }
        run().split(0, 1).note(0, 7, true).event(0, 1).event(1, 2).behind(15, 1 << 15);
    }

    private static void behindOfAllSixteen() {
        for (int x = 0; x < 16; x++) {
            run(BoundaryTest::sixteenThatKnowNothing).behind(x, 65535);
        }
        run(BoundaryTest::sixteenThatKnowNothing).event(7, 1).behind(7, 65535).behind(0, 65535 - 128);
    }

    private static void behindOfNobody() {
        for (int x : NO_HOLDER) {
            changesNothing(BoundaryTest::mixed, run -> run.behind(x, 0));
            changesNothing(BoundaryTest::eightApart, run -> run.behind(x, 0));
        }
        run(BoundaryTest::mixed).behind(1, 0).behind(4, 0).behind(5, 0).behind(6, 0).behind(7, 0);
    }

    private static void behindOfEmptyNote() {
        run(BoundaryTest::mixed).behind(9, 0).behind(10, 0).behind(11, 0).behind(12, 0);
        run().behind(8, 0).behind(15, 0);
    }

    // Promise 14

    private static void newestOfAllSixteen() {
        run(BoundaryTest::sixteenThatKnowNothing).newest(65535);
        run(BoundaryTest::eightApart).newest(65535);
        for (int a = 0; a < 8; a++) {
            run(BoundaryTest::sixteenThatKnowNothing).event(a, 1).newest(1 << a).note(a, 7 - a, true)
                .newest(1 << a | 1 << 15 - a);
        }
    }

    private static void newestAtItsEdges() {
        run().newest(1).note(0, 7, true).newest(1 | 1 << 15).event(0, 1).newest(1).erase(7, true).newest(1);
        run().split(0, 1).event(0, 1).note(0, 0, true).event(1, 2).newest(1 | 2 | 1 << 8).tell(1, 0, 1).newest(1)
            .tell(0, 1, 1).newest(3);
        run().split(0, 1).event(0, 1).note(0, 0, true).event(0, 2).newest(1).join(1, 0, 32).newest(2);
    }

    // Promise 15

    private static void everywhereButAtOne() {
        for (int missing = 0; missing < 8; missing++) {
            int writer = (missing + 1) % 8;
            Run run = run(BoundaryTest::sixteenThatKnowNothing).event(writer, 1).note(writer, 7, true);
            for (int b = 0; b < 8; b++) {
                if (b != writer && b != missing) {
                    run.everywhere(7, false).tell(15, b, 1);
                }
            }
            run.everywhere(7, false).tell(15, missing, 1).everywhere(7, true);
        }
        run().split(0, 1).events(0, 1, 99).tell(0, 1, 1).event(0, 100).note(0, 0, true).everywhere(0, false)
            .tell(0, 1, 1).everywhere(0, true);
        run().split(0, 1).event(0, 1).note(0, 0, true).everywhere(0, false).join(0, 1, 32).everywhere(0, true);
    }

    private static void everywhereWithOneParty() {
        run().event(0, 1).note(0, 0, true).everywhere(0, true).event(0, 2).everywhere(0, true);
        run().split(0, 1).event(0, 1).note(0, 7, true).everywhere(7, false).join(1, 0, 32).everywhere(7, true);
    }

    private static void everywhereOfNoEvent() {
        Run run = run(BoundaryTest::sixteenThatKnowNothing).event(3, 1);
        for (int n = 0; n < 8; n++) {
            run.everywhere(n, true);
        }
    }

    private static void everywhereOfEmptyNote() {
        Run run = run().event(0, 1);
        for (int n = 0; n < 8; n++) {
            run.everywhere(n, false).note(0, n, true).everywhere(n, true).erase(n, true).everywhere(n, false);
        }
    }

    private static void everywhereOfNoNote() {
        for (int n : NO_SLOT) {
            changesNothing(BoundaryTest::sixteenThatKnowNothing, run -> run.everywhere(n, false));
        }
    }

    // Promise 16

    private static void noPairsApart() {
        run().apartPairs(0).note(0, 0, true).event(0, 1).apartPairs(0);
        run(BoundaryTest::sixteenThatKnowNothing).apartPairs(0).event(7, 1).apartPairs(0).event(0, 2).apartPairs(1);
    }

    private static void mostPairsApart() {
        run(BoundaryTest::eightApart).apartPairs(120 - 8).erase(7, true).apartPairs(105 - 7)
            .join(0, 7, 8).apartPairs(91 - 7);
        run().split(0, 1).event(0, 1).event(1, 2).apartPairs(1).note(0, 0, true).apartPairs(2).note(1, 7, true)
            .apartPairs(4).tell(0, 1, 1).apartPairs(2);
    }

    // Promise 17

    private static void tellOfEmptyNote() {
        for (int x = 8; x < 16; x++) {
            int empty = x;
            changesNothing(BoundaryTest::nothing, run -> run.tell(empty, 0, BAD));
            changesNothing(run -> eightApart(run).erase(empty - 8, true), run -> run.tell(empty, 15 - empty, BAD));
        }
        for (int x : new int[] {9, 10, 11, 12}) {
            changesNothing(BoundaryTest::mixed, run -> run.tell(x, 0, BAD));
        }
    }

    private static void compareOfErasedNote() {
        for (int n = 0; n < 8; n++) {
            Run run = run(BoundaryTest::eightApart).erase(n, true);
            for (int y = 0; y < 16; y++) {
                run.compare(8 + n, y, BAD).compare(y, 8 + n, BAD);
            }
            run.note(n, n, true).compare(8 + n, n, SAME);
        }
    }

    private static void emptyNoteIsBehindNobody() {
        for (int n = 0; n < 8; n++) {
            Run run = run(BoundaryTest::sixteenThatKnowNothing).erase(n, true).behind(8 + n, 0);
            for (int y = 0; y < 16; y++) {
                run.behind(y, y == 8 + n ? 0 : 65535 & ~(1 << 8 + n));
            }
        }
    }

    private static void tellToNotes() {
        for (int b : NO_SLOT) {
            changesNothing(BoundaryTest::mixed, run -> run.tell(2, b, BAD));
            changesNothing(BoundaryTest::eightApart, run -> run.tell(7, b, BAD));
            changesNothing(BoundaryTest::eightApart, run -> run.tell(15, b, BAD));
        }
    }

    private static void splitTestsBadFirst() {
        for (int a : NO_SLOT) {
            changesNothing(BoundaryTest::eightApart, run -> run.split(a, BAD));
        }
        changesNothing(BoundaryTest::oneCellTwice, run -> run.split(6, BAD));
        changesNothing(run -> oneCellTwice(run).join(1, 5, 17), run -> run.split(5, BAD));
    }

    private static void eventTestsBadFirst() {
        for (int a : NO_SLOT) {
            changesNothing(BoundaryTest::hundredEvents, run -> run.event(a, BAD));
        }
        for (int a = 3; a < 8; a++) {
            int free = a;
            changesNothing(BoundaryTest::hundredEvents, run -> run.event(free, BAD));
        }
        changesNothing(run -> hundredEvents(run).join(0, 2, 16), run -> run.event(2, BAD));
    }

    // Objects to begin with. In those that know something each party has a note of it, so that a party that wrongly
    // learned or forgot something shows.

    private static Run nothing(Run run) {
        return run;
    }

    /** Parties 0, 2 and 3, of which 1 has joined 2; notes 0, 5, 6 and 7, while 3 has been erased. */
    private static Run mixed(Run run) {
        run.split(0, 1).split(0, 2).split(1, 3).event(0, 1).event(1, 2).event(2, 3).event(3, 4);
        run.note(0, 0, true).note(2, 7, true).note(3, 3, true).join(2, 1, 16).note(2, 5, true).erase(3, true);
        return run.event(3, 5).note(3, 6, true);
    }

    /** Eight parties with four cells and one event each, and note a of each party a. */
    private static Run eightApart(Run run) {
        run.split(0, 1).split(0, 2).split(1, 3).split(0, 4).split(1, 5).split(2, 6).split(3, 7);
        return eventAndNoteOfEach(run, 8);
    }

    private static Run sixteenThatKnowNothing(Run run) {
        for (int n = 0; n < 8; n++) {
            run.note(0, n, true);
        }
        return run.split(0, 1).split(0, 2).split(1, 3).split(0, 4).split(1, 5).split(2, 6).split(3, 7);
    }

    /** Parties 0 .. 5 with 1, 16, 8, 4, 2 and 1 cells. */
    private static Run oneCellTwice(Run run) {
        run.split(0, 1).split(0, 2).split(0, 3).split(0, 4).split(0, 5);
        return eventAndNoteOfEach(run, 6);
    }

    private static Run eightWithOneCell(Run run) {
        run.split(0, 1).split(0, 2).split(0, 3).split(0, 4).split(0, 5).split(1, 6).split(1, 7);
        return eventAndNoteOfEach(run, 8);
    }

    private static Run hundredEvents(Run run) {
        run.split(0, 1).split(0, 2).events(0, 1, 34).events(1, 35, 67).events(2, 68, 100);
        return run.note(0, 0, true).note(1, 1, true).note(2, 2, true);
    }

    private static Run eventAndNoteOfEach(Run run, int parties) {
        for (int a = 0; a < parties; a++) {
            run.event(a, a + 1).note(a, a, true);
        }
        return run;
    }

    /** All the allowed calls but one. */
    private static Run longUse(Run run) {
        run.note(0, 0, true);
        for (int i = 0; i < 205; i++) {
            run.split(0, 1).join(0, 1, 32);
        }
        return run.events(0, 1, 99).parties(1);
    }

    // How the tests are made

    private static void test(String words, Runnable body) {
        sentence = words;
        sentences++;
        wrongInSentence = 0;
        try {
            body.run();
        } catch (RuntimeException e) {
            complain("a call has thrown " + e);
        }
    }

    private static void expect(String what, int got, int want) {
        if (got != want) {
            complain(what + " answered " + got + ", due is " + want);
        }
    }

    private static void complain(String what) {
        wrong++;
        wrongInSentence++;
        if (wrongInSentence <= MOST_SHOWN) {
            System.out.println(sentence + ": " + what);
        }
    }

    private static Run run() {
        return new Run();
    }

    private static Run run(Consumer<Run> scene) {
        Run run = new Run();
        scene.accept(run);
        return run;
    }

    /** After the call all others answer as before it, and so do those that come later. */
    private static void changesNothing(Consumer<Run> scene, Consumer<Run> call) {
        Run run = run(scene);
        String before = run.allAnswers();
        call.accept(run);
        String after = run.allAnswers();
        if (!before.equals(after)) {
            complain(run.lastCall + " has changed" + before + "\n    into" + after);
        }
        String later = run.laterAnswers();
        String laterWithoutIt = run(scene).laterAnswers();
        if (!later.equals(laterWithoutIt)) {
            complain("after " + run.lastCall + later + "\n    without it" + laterWithoutIt);
        }
    }

    private static int[] outsideOf(int size, int... above) {
        IntStream starts = IntStream.concat(IntStream.of(above), IntStream.of(32, 64, 128, 256, 65536, 1 << 30,
            Integer.MIN_VALUE, -65536, -256, -64, -32, -16));
        IntStream shifted = starts.flatMap(start -> IntStream.range(start, start + size));
        IntStream edges = IntStream.of(-8, -7, -2, -1, size, Integer.MAX_VALUE - 7, Integer.MAX_VALUE);
        return IntStream.concat(shifted, edges).distinct().toArray();
    }

    /** A new object, its calls with the answers that are due, and a watch over how many calls it gets. */
    private static final class Run {
        private final IntervalClocks clocks = new IntervalClocks();
        private int calls = 0;
        private String lastCall = "";

        private void count() {
            calls++;
            if (calls == ALLOWED_CALLS + 1) {
                complain("the test itself makes more calls than are allowed");
            }
        }

        private Run due(String call, int got, int want) {
            count();
            lastCall = call;
            expect(call, got, want);
            return this;
        }

        private Run due(String call, boolean got, boolean want) {
            return due(call, got ? 1 : 0, want ? 1 : 0);
        }

        Run split(int a, int want) {
            return due("split(" + a + ")", clocks.split(a), want);
        }

        Run join(int a, int b, int want) {
            return due("join(" + a + ", " + b + ")", clocks.join(a, b), want);
        }

        Run event(int a, int want) {
            return due("event(" + a + ")", clocks.event(a), want);
        }

        Run tell(int x, int b, int want) {
            return due("tell(" + x + ", " + b + ")", clocks.tell(x, b), want);
        }

        Run note(int a, int n, boolean want) {
            return due("note(" + a + ", " + n + ")", clocks.note(a, n), want);
        }

        Run erase(int n, boolean want) {
            return due("erase(" + n + ")", clocks.erase(n), want);
        }

        Run parties(int want) {
            return due("parties()", clocks.parties(), want);
        }

        Run notes(int want) {
            return due("notes()", clocks.notes(), want);
        }

        Run events(int want) {
            return due("events()", clocks.events(), want);
        }

        Run cells(int a, int want) {
            return due("cells(" + a + ")", clocks.cells(a), want);
        }

        Run compare(int x, int y, int want) {
            return due("compare(" + x + ", " + y + ")", clocks.compare(x, y), want);
        }

        Run behind(int x, int want) {
            return due("behind(" + x + ")", clocks.behind(x), want);
        }

        Run newest(int want) {
            return due("newest()", clocks.newest(), want);
        }

        Run everywhere(int n, boolean want) {
            return due("everywhere(" + n + ")", clocks.everywhere(n), want);
        }

        Run apartPairs(int want) {
            return due("apartPairs()", clocks.apartPairs(), want);
        }

        /** The events with the numbers first .. last, all at party a. */
        Run events(int a, int first, int last) {
            for (int number = first; number <= last; number++) {
                event(a, number);
            }
            return this;
        }

        /** The cells of all parties are 32 in all, and no party is without one. */
        Run addUp() {
            int sum = 0;
            for (int a = 0; a < 8; a++) {
                int cells = cellsOf(a);
                expect("a party without cells", cells == 0 ? 1 : 0, 0);
                sum += cells == BAD ? 0 : cells;
            }
            expect("the sum of all cells", sum, 32);
            return this;
        }

        int cellsOf(int a) {
            count();
            return clocks.cells(a);
        }

        boolean isThere(int a) {
            return cellsOf(a) != BAD;
        }

        int leastFree() {
            int a = 0;
            while (a < 8 && isThere(a)) {
                a++;
            }
            return a;
        }

        int anotherThan(int a) {
            int other = 0;
            while (other < 8 && (other == a || !isThere(other))) {
                other++;
            }
            return other;
        }

        /** Parts the cells into 16, 8, 4, 2, 1 and 1, and joins those that make up n; answers who has them. */
        int partyOfCells(int n) {
            split(0, 1).split(0, 2).split(0, 3).split(0, 4).split(0, 5);
            int holder = -1;
            int rest = n;
            for (int a : new int[] {1, 2, 3, 4, 5, 0}) {
                int cells = cellsOf(a);
                if (cells <= rest) {
                    rest -= cells;
                    if (holder == -1) {
                        holder = a;
                    } else {
                        join(holder, a, n - rest);
                    }
                }
            }
            return holder;
        }

        /** What every call that only asks answers, for everything it can be asked of. */
        String allAnswers() {
            StringBuilder all = new StringBuilder();
            add(all, "parties", clocks.parties());
            add(all, "notes", clocks.notes());
            add(all, "events", clocks.events());
            add(all, "newest", clocks.newest());
            add(all, "apartPairs", clocks.apartPairs());
            for (int i = 0; i < 8; i++) {
                add(all, "cells " + i, clocks.cells(i));
                add(all, "everywhere " + i, clocks.everywhere(i) ? 1 : 0);
            }
            for (int x = 0; x < 16; x++) {
                add(all, "behind " + x, clocks.behind(x));
                for (int y = x + 1; y < 16; y++) {
                    add(all, "compare " + x + " " + y, clocks.compare(x, y));
                }
            }
            return all.toString();
        }

        /** Calls that would show what a refused one has left behind unseen. */
        String laterAnswers() {
            StringBuilder all = new StringBuilder();
            for (int a = 0; a < 8; a++) {
                add(all, "split " + a, clocks.split(a));
            }
            for (int a = 0; a < 8; a++) {
                add(all, "event " + a, clocks.event(a));
                add(all, "tell " + (a + 8), clocks.tell(a + 8, a));
            }
            for (int x = 0; x < 16; x++) {
                add(all, "behind " + x, clocks.behind(x));
            }
            for (int a = 1; a < 8; a++) {
                add(all, "join " + a, clocks.join(0, a));
            }
            return all.toString();
        }

        private void add(StringBuilder all, String call, int answer) {
            count();
            all.append(' ').append(call).append(" = ").append(answer).append(';');
        }
    }
}
