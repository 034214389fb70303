// The boundary cases of promises 31 to 36 (sheets), each sentence that names one by a test of its own. Calls are refused
// on the usual object: its book has 6 words, sheet 0 a row of 5 bytes, 1 one of no shorts, 2 one of 3 ints, 3 nothing.
public final class BoundariesOfSheets extends Boundaries {
    public static void main(String[] args) {
        runAll(BoundariesOfSheets.class);
    }

    static final int[] LANES = {BYTES, SHORTS, INTS};

    // ---- 31 ways

    static int ways(SlipWheel x, int... cells) {
        sheet(x, 3, SHORTS, cells);
        return x.ways(3, SHORTS, 0, cells.length);
    }

    static void promise31_ways_sheetBelow0() {
        refused(BAD, x -> x.ways(-1, 0, 0, 1));
        refused(BAD, x -> x.ways(LEAST, 0, 0, 1));
    }

    static void promise31_ways_sheetAbove3() {
        refused(BAD, x -> x.ways(4, 0, 0, 1));
        refused(BAD, x -> x.ways(MOST, 0, 0, 1));
    }

    static void promise31_ways_laneBelow0() {
        refused(BAD, x -> x.ways(0, -1, 0, 1));
        refused(BAD, x -> x.ways(0, LEAST, 0, 1));
    }

    static void promise31_ways_laneAbove2() {
        refused(BAD, x -> x.ways(0, 3, 0, 1));
        refused(BAD, x -> x.ways(0, MOST, 0, 1));
    }

    static void promise31_ways_ofNoCell() {
        refused(BAD, x -> x.ways(0, 0, 0, 0));
        refused(BAD, x -> x.ways(0, 0, 0, -1));
        refused(BAD, x -> x.ways(0, 0, 0, LEAST));
    }

    static void promise31_ways_of13Cells() {
        refused(BAD, x -> x.ways(0, 0, 0, 13));
        refused(BAD, x -> x.ways(0, 0, 0, MOST));
    }

    static void promise31_ways_badAheadOfNull() {
        refused(BAD, x -> x.ways(3, 0, 0, 13));
        refused(BAD, x -> x.ways(3, 3, 0, 1));
        refused(BAD, x -> x.ways(3, 0, -1, 0));
    }

    static void promise31_ways_sheetOfNothing() {
        refused(NULL, x -> x.ways(3, 0, 0, 1));
    }

    static void promise31_ways_nullAheadOfIndex() {
        refused(NULL, x -> x.ways(3, 2, -1, 12));
    }

    static void promise31_ways_anotherLane() {
        refused(CAST, x -> x.ways(0, 1, 0, 1));
        refused(CAST, x -> x.ways(0, 2, 0, 1));
        refused(CAST, x -> x.ways(2, 0, 0, 1));
        refused(CAST, x -> x.ways(1, 2, 0, 1));
    }

    static void promise31_ways_castAheadOfIndex() {
        refused(CAST, x -> x.ways(0, 1, -1, 1));
        refused(CAST, x -> x.ways(0, 1, 5, 1));
    }

    static void promise31_ways_fromBelow0() {
        refused(INDEX, x -> x.ways(0, 0, -1, 2));
        refused(INDEX, x -> x.ways(0, 0, LEAST, 12));
    }

    static void promise31_ways_fromTooLarge() {
        refused(INDEX, x -> x.ways(0, 0, 5, 1));
        refused(INDEX, x -> x.ways(0, 0, 4, 2));
        refused(INDEX, x -> x.ways(0, 0, MOST, 12));
    }

    static void promise31_ways_moreItemsThanThereAre() {
        refused(INDEX, x -> x.ways(0, 0, 0, 6));
    }

    static void promise31_ways_rowOfNoItems() {
        refused(INDEX, x -> x.ways(1, 1, 0, 1));
    }

    static void promise31_ways_indexAheadOfNot() {
        refused(INDEX, x -> x.ways(2, 2, 0, 4));
    }

    static void promise31_ways_notACell() {
        refused(NOT, x -> x.ways(0, 0, 3, 2));
        refused(NOT, x -> x.ways(2, 2, 0, 1));
        due(ways(wheel(SANE, SANE), -1), NOT);
        due(ways(wheel(SANE, SANE), 2), NOT);
        due(ways(wheel(SANE, SANE, SANE, SANE, SANE, SANE), 0, 6), NOT);
    }

    static void promise31_ways_notACellWithoutACell() {
        due(ways(wheel(), 0), NOT);
    }

    static void promise31_ways_notACellFarOff() {
        SlipWheel x = wheel(SANE);
        sheet(x, 0, INTS, LEAST, MOST, -4);
        due(x.ways(0, INTS, 0, 1), NOT);
        due(x.ways(0, INTS, 1, 1), NOT);
        due(x.ways(0, INTS, 2, 1), NOT);
    }

    static void promise31_ways_oneThatIsDead() {
        SlipWheel x = wheel(SANE, SANE, SANE);
        x.dead(2, true);
        due(ways(x, 2), NOT);
        due(ways(x, 0, 1, 2), NOT);
        due(ways(x, 2, 0, 1), NOT);
        x.dead(2, false);
        due(ways(x, 0, 1, 2), 0);
    }

    static void promise31_ways_notAheadOfNone() {
        SlipWheel x = wheel(SANE, SANE, SANE, SANE);
        due(ways(x, 0, 2, 4), NOT);
        due(ways(x, 0, 2), NONE);
        x.dead(3, true);
        due(ways(x, 0, 0, 3), NOT);
    }

    static void promise31_ways_ofOneCell() {
        due(ways(wheel(SANE), 0), 0);
        due(ways(wheel(SANE, SANE, SANE), 1), 0);
    }

    static void promise31_ways_of12Cells() {
        SlipWheel x = wheel(SANE, SANE, SANE, SANE, SANE, SANE);
        due(ways(x, 0, 1, 2, 3, 4, 5, 0, 1, 2, 3, 4, 5), 0);
        due(ways(x, 0, 1, 0, 1, 0, 1, 0, 1, 0, 1, 0, 1), 10);
    }

    static void promise31_ways_forwardsRound() {
        due(ways(wheel(SANE, SANE, SANE, SANE), 2, 3, 0, 1), 0);
    }

    static void promise31_ways_backwardsRound() {
        due(ways(wheel(SANE, SANE, SANE, SANE), 1, 0, 3, 2), 0);
    }

    static void promise31_ways_whicheverWayAtFirst() {
        SlipWheel x = wheel(SANE, SANE, SANE);
        due(ways(x, 0, 2, 1), 0);
        x.turn(true);
        due(ways(x, 0, 1, 2), 0);
    }

    static void promise31_ways_oneChange() {
        due(ways(wheel(SANE, SANE, SANE), 0, 1, 0), 1);
        due(ways(wheel(SANE, SANE, SANE), 0, 2, 0), 1);
    }

    static void promise31_ways_aChangeAtTheLast() {
        due(ways(wheel(SANE, SANE, SANE), 0, 1, 2, 0, 2), 1);
    }

    static void promise31_ways_noneAcross() {
        due(ways(wheel(SANE, SANE, SANE, SANE), 0, 2), NONE);
        due(ways(wheel(SANE, SANE, SANE, SANE), 0, 1, 3), NONE);
        due(ways(wheel(SANE, SANE, SANE, SANE), 0, 2, 3), NONE);
    }

    static void promise31_ways_noneOfTheSameCellTwice() {
        due(ways(wheel(SANE, SANE), 0, 0), NONE);
        due(ways(wheel(SANE, SANE, SANE), 1, 1), NONE);
    }

    static void promise31_ways_oneCellAloneIsItsOwnNext() {
        due(ways(wheel(SANE), 0, 0, 0), 0);
        SlipWheel x = wheel(SANE, SANE, SANE);
        x.dead(0, true);
        x.dead(2, true);
        due(ways(x, 1, 1, 1, 1), 0);
    }

    static void promise31_ways_ofTwoEachIsBehindAndAhead() {
        due(ways(wheel(SANE, SANE), 0, 1, 0, 1), 0);
        SlipWheel x = wheel(SANE, SANE, SANE);
        x.dead(1, true);
        due(ways(x, 0, 2, 0, 2), 0);
    }

    static void promise31_ways_pastDeadOnes() {
        SlipWheel x = wheel(SANE, SANE, SANE, SANE, SANE, SANE);
        x.dead(1, true);
        x.dead(2, true);
        x.dead(5, true);
        due(ways(x, 0, 3, 4, 0), 0);
        due(ways(x, 0, 4, 3, 0), 0);
    }

    static void promise31_ways_bySeatsAsTheyAre() {
        SlipWheel x = wheel(SANE, SANE, SANE, SANE);
        x.swap(1, 2);
        due(ways(x, 0, 2, 1, 3), 0);
        due(ways(x, 0, 1), NONE);
    }

    static void promise31_ways_muteOnesHaveTheirTurn() {
        due(ways(wheel(SANE, MUTE, SANE, MUTE), 0, 1, 2, 3, 0), 0);
        due(ways(wheel(SANE, MUTE, SANE, MUTE), 0, 2), NONE);
    }

    static void promise31_ways_fromTheLastThatHasThem() {
        SlipWheel x = wheel(SANE, SANE, SANE);
        sheet(x, 0, BYTES, 9, 9, 9, 0, 1, 0);
        due(x.ways(0, BYTES, 3, 3), 1);
        due(x.ways(0, BYTES, 5, 1), 0);
        due(x.ways(0, BYTES, 4, 3), INDEX);
    }

    static void promise31_ways_of24ItemsTheLast12() {
        SlipWheel x = wheel(SANE, SANE, SANE);
        int[] cells = new int[24];
        for (int i = 0; i < 24; i++) {
            cells[i] = i < 12 ? 9 : i % 3;
        }
        sheet(x, 0, INTS, cells);
        due(x.ways(0, INTS, 12, 12), 0);
        due(x.ways(0, INTS, 13, 12), INDEX);
        due(x.ways(0, INTS, 11, 12), NOT);
    }

    static void promise31_ways_changesNothing() {
        SlipWheel x = usual();
        due(x.ways(0, BYTES, 0, 2), 0);
        due(portrait(x), portrait(usual()));
    }

    // ---- 32 differ

    static void promise32_differ_placeBelow0() {
        refused(BAD, x -> x.differ(-1, 0, 0, 0, 1));
        refused(BAD, x -> x.differ(LEAST, 0, 0, 0, 1));
    }

    static void promise32_differ_placeAbove60() {
        refused(BAD, x -> x.differ(61, 0, 0, 0, 1));
        refused(BAD, x -> x.differ(MOST, 0, 0, 0, 1));
    }

    static void promise32_differ_sheetBelow0() {
        refused(BAD, x -> x.differ(0, -1, 0, 0, 1));
        refused(BAD, x -> x.differ(0, LEAST, 0, 0, 1));
    }

    static void promise32_differ_sheetAbove3() {
        refused(BAD, x -> x.differ(0, 4, 0, 0, 1));
        refused(BAD, x -> x.differ(0, MOST, 0, 0, 1));
    }

    static void promise32_differ_laneBelow0() {
        refused(BAD, x -> x.differ(0, 0, -1, 0, 1));
        refused(BAD, x -> x.differ(0, 0, LEAST, 0, 1));
    }

    static void promise32_differ_laneAbove2() {
        refused(BAD, x -> x.differ(0, 0, 3, 0, 1));
        refused(BAD, x -> x.differ(0, 0, MOST, 0, 1));
    }

    static void promise32_differ_ofNoWord() {
        refused(BAD, x -> x.differ(0, 0, 0, 0, 0));
        refused(BAD, x -> x.differ(0, 0, 0, 0, -1));
        refused(BAD, x -> x.differ(0, 0, 0, 0, LEAST));
    }

    static void promise32_differ_of25Words() {
        refused(BAD, x -> x.differ(0, 0, 0, 0, 25));
        refused(BAD, x -> x.differ(0, 0, 0, 0, MOST));
    }

    static void promise32_differ_badAheadOfNull() {
        refused(BAD, x -> x.differ(-1, 3, 0, 0, 1));
        refused(BAD, x -> x.differ(61, 3, 0, 0, 1));
        refused(BAD, x -> x.differ(0, 3, 0, 0, 25));
    }

    static void promise32_differ_sheetOfNothing() {
        refused(NULL, x -> x.differ(0, 3, 0, 0, 1));
    }

    static void promise32_differ_nullAheadOfIndex() {
        refused(NULL, x -> x.differ(0, 3, 2, -1, 24));
    }

    static void promise32_differ_anotherLane() {
        refused(CAST, x -> x.differ(0, 0, 1, 0, 1));
        refused(CAST, x -> x.differ(0, 0, 2, 0, 1));
        refused(CAST, x -> x.differ(0, 1, 0, 0, 1));
        refused(CAST, x -> x.differ(0, 2, 1, 0, 1));
    }

    static void promise32_differ_castAheadOfIndex() {
        refused(CAST, x -> x.differ(0, 0, 1, 5, 1));
        refused(CAST, x -> x.differ(0, 0, 1, -1, 1));
    }

    static void promise32_differ_fromBelow0() {
        refused(INDEX, x -> x.differ(0, 0, 0, -1, 2));
        refused(INDEX, x -> x.differ(0, 0, 0, LEAST, 24));
    }

    static void promise32_differ_fromTooLarge() {
        refused(INDEX, x -> x.differ(0, 0, 0, 5, 1));
        refused(INDEX, x -> x.differ(0, 0, 0, 4, 2));
        refused(INDEX, x -> x.differ(0, 0, 0, MOST, 24));
    }

    static void promise32_differ_moreItemsThanThereAre() {
        refused(INDEX, x -> x.differ(0, 0, 0, 0, 6));
    }

    static void promise32_differ_rowOfNoItems() {
        refused(INDEX, x -> x.differ(0, 1, 1, 0, 1));
    }

    static void promise32_differ_none() {
        SlipWheel x = usual();
        due(x.differ(0, 0, BYTES, 0, 5), 0);
        due(x.differ(4, 0, BYTES, 4, 1), 0);
    }

    static void promise32_differ_all() {
        SlipWheel x = usual();
        due(x.differ(1, 0, BYTES, 0, 5), 5);
    }

    static void promise32_differ_of24Words() {
        SlipWheel x = wheel();
        int[] words = new int[24];
        words[23] = 7;
        sheet(x, 0, INTS, words);
        book(x, "aaaaaaaaaaaaaaaaaaaaaaaa");
        due(x.differ(0, 0, INTS, 0, 24), 1);
        due(x.differ(1, 0, INTS, 0, 24), 1);
        due(x.differ(0, 0, INTS, 1, 24), INDEX);
    }

    static void promise32_differ_ofOneWordAtTheLastPlace() {
        SlipWheel x = usual();
        due(x.differ(4, 0, BYTES, 4, 1), 0);
        due(x.differ(5, 0, BYTES, 4, 1), 1);
    }

    static void promise32_differ_placeAtTheEndOfTheBook() {
        SlipWheel x = usual();
        due(x.differ(6, 0, BYTES, 0, 5), 5);
    }

    static void promise32_differ_partlyBeyondItsEnd() {
        SlipWheel x = wheel();
        book(x, "aa");
        sheet(x, 0, SHORTS, 0, 0, 0, 0);
        due(x.differ(0, 0, SHORTS, 0, 4), 2);
        due(x.differ(1, 0, SHORTS, 0, 4), 3);
    }

    static void promise32_differ_place60() {
        SlipWheel x = fullBook(SANE);
        sheet(x, 0, SHORTS, 0, 0, 0);
        due(x.differ(60, 0, SHORTS, 0, 3), 3);
        due(x.differ(59, 0, SHORTS, 0, 3), 2);
        due(x.differ(57, 0, SHORTS, 0, 3), 0);
    }

    static void promise32_differ_anEmptyBook() {
        SlipWheel x = wheel();
        sheet(x, 0, SHORTS, 0, 0, 0);
        due(x.differ(0, 0, SHORTS, 0, 3), 3);
        due(x.differ(60, 0, SHORTS, 0, 3), 3);
    }

    static void promise32_differ_undoneWordsAreBeyondItsEnd() {
        SlipWheel x = wheel(SANE);
        add(x, "cc");
        x.undo(1);
        sheet(x, 0, BYTES, 2, 2);
        due(x.differ(0, 0, BYTES, 0, 2), 1);
    }

    static void promise32_differ_oneThatIsNoWord() {
        SlipWheel x = wheel();
        book(x, "aaah");
        sheet(x, 0, INTS, -1, 8, 256, 15);
        due(x.differ(0, 0, INTS, 0, 4), 4);
    }

    static void promise32_differ_oneThatIsNoWordBeyondItsEnd() {
        SlipWheel x = wheel();
        book(x, "a");
        sheet(x, 0, INTS, 0, -4, -1, LEAST);
        due(x.differ(0, 0, INTS, 0, 4), 3);
    }

    static void promise32_differ_wordsThatAreForgottenToo() {
        SlipWheel x = wheel(SANE);
        add(x, "c");
        x.forget(0);
        sheet(x, 0, BYTES, 2);
        due(x.differ(0, 0, BYTES, 0, 1), 0);
    }

    static void promise32_differ_changesNothing() {
        SlipWheel x = usual();
        x.differ(1, 2, INTS, 0, 3);
        due(portrait(x), portrait(usual()));
    }

    // ---- 33 sheet

    static void promise33_sheet_below0() {
        refused(BAD, x -> x.sheet(-1, 0, 1));
        refused(BAD, x -> x.sheet(LEAST, 0, 1));
    }

    static void promise33_sheet_above3() {
        refused(BAD, x -> x.sheet(4, 0, 1));
        refused(BAD, x -> x.sheet(MOST, 0, 1));
    }

    static void promise33_sheet_laneBelow0() {
        refused(BAD, x -> x.sheet(0, -1, 1));
        refused(BAD, x -> x.sheet(0, LEAST, 1));
    }

    static void promise33_sheet_laneAbove2() {
        refused(BAD, x -> x.sheet(0, 3, 1));
        refused(BAD, x -> x.sheet(0, MOST, 1));
    }

    static void promise33_sheet_of25Items() {
        refused(BAD, x -> x.sheet(0, 0, 25));
        refused(BAD, x -> x.sheet(3, 0, MOST));
    }

    static void promise33_sheet_ofLessThanNoItems() {
        refused(SIZE, x -> x.sheet(0, 0, -1));
        refused(SIZE, x -> x.sheet(3, 2, LEAST));
    }

    static void promise33_sheet_badAheadOfSize() {
        refused(BAD, x -> x.sheet(4, 0, -1));
        refused(BAD, x -> x.sheet(-1, 0, -1));
        refused(BAD, x -> x.sheet(0, 3, -1));
        refused(BAD, x -> x.sheet(0, -1, -1));
    }

    static void promise33_sheet_ofNoItems() {
        SlipWheel x = wheel();
        due(x.sheet(0, BYTES, 0), 0);
        due(x.item(0, BYTES, 0, 1), INDEX);
        due(x.drop(0), 0);
    }

    static void promise33_sheet_of24Items() {
        SlipWheel x = wheel();
        for (int lane : LANES) {
            due(x.sheet(3, lane, 24), 24);
            due(x.item(3, lane, 23, 5), 1);
            due(x.item(3, lane, 24, 5), INDEX);
            due(wordOfItem(x, 3, lane, 23), 5);
        }
    }

    static void promise33_sheet_firstAndLast() {
        SlipWheel x = wheel();
        due(x.sheet(0, INTS, 1), 1);
        due(x.sheet(3, INTS, 2), 2);
        due(x.drop(1), NULL);
        due(x.drop(2), NULL);
        due(x.drop(0), 1);
        due(x.drop(3), 2);
    }

    static void promise33_sheet_aNewRowIsOfZeros() {
        SlipWheel x = wheel();
        for (int lane : LANES) {
            sheet(x, 0, lane, 7, 7, 7);
            x.sheet(0, lane, 3);
            due(wordOfItem(x, 0, lane, 0), 0);
            due(wordOfItem(x, 0, lane, 2), 0);
        }
    }

    static void promise33_sheet_aLongerRowIsOfZerosToo() {
        SlipWheel x = wheel();
        sheet(x, 0, INTS, 7, 7, 7);
        x.sheet(0, INTS, 1);
        x.sheet(0, INTS, 3);
        due(wordOfItem(x, 0, INTS, 2), 0);
        x.item(0, INTS, 2, 7);
        x.drop(0);
        x.sheet(0, INTS, 3);
        due(wordOfItem(x, 0, INTS, 2), 0);
    }

    static void promise33_sheet_inPlaceOfARowOfAnotherLane() {
        SlipWheel x = usual();
        due(x.sheet(0, INTS, 2), 2);
        due(x.item(0, BYTES, 0, 1), CAST);
        due(x.item(0, INTS, 2, 1), INDEX);
        due(x.drop(0), 2);
    }

    static void promise33_sheet_theOthersStay() {
        SlipWheel x = wheel();
        sheet(x, 0, BYTES, 5);
        sheet(x, 1, BYTES, 6);
        due(wordOfItem(x, 0, BYTES, 0), 5);
        due(wordOfItem(x, 1, BYTES, 0), 6);
    }

    // ---- 34 drop

    static void promise34_drop_sheetBelow0() {
        refused(BAD, x -> x.drop(-1));
        refused(BAD, x -> x.drop(LEAST));
    }

    static void promise34_drop_sheetAbove3() {
        refused(BAD, x -> x.drop(4));
        refused(BAD, x -> x.drop(MOST));
    }

    static void promise34_drop_sheetOfNothing() {
        refused(NULL, x -> x.drop(3));
    }

    static void promise34_drop_sheetDroppedBefore() {
        SlipWheel x = usual();
        due(x.drop(0), 5);
        due(x.drop(0), NULL);
    }

    static void promise34_drop_rowOfNoItems() {
        SlipWheel x = usual();
        due(x.drop(1), 0);
        due(x.drop(1), NULL);
    }

    static void promise34_drop_rowOf24Items() {
        SlipWheel x = wheel();
        x.sheet(3, SHORTS, 24);
        due(x.drop(3), 24);
    }

    static void promise34_drop_itHoldsNothingThen() {
        SlipWheel x = usual();
        x.drop(0);
        due(x.item(0, BYTES, 0, 0), NULL);
        due(x.differ(0, 0, BYTES, 0, 1), NULL);
        due(x.ways(0, BYTES, 0, 1), NULL);
        due(x.film(0, 1, 0, BYTES, 0), NULL);
    }

    static void promise34_drop_theOthersStay() {
        SlipWheel x = usual();
        x.drop(1);
        due(x.drop(0), 5);
        due(x.drop(2), 3);
    }

    // ---- 35 item

    static void promise35_item_sheetBelow0() {
        refused(BAD, x -> x.item(-1, 0, 0, 5));
        refused(BAD, x -> x.item(LEAST, 0, 0, 5));
    }

    static void promise35_item_sheetAbove3() {
        refused(BAD, x -> x.item(4, 0, 0, 5));
        refused(BAD, x -> x.item(MOST, 0, 0, 5));
    }

    static void promise35_item_laneBelow0() {
        refused(BAD, x -> x.item(0, -1, 0, 5));
        refused(BAD, x -> x.item(0, LEAST, 0, 5));
    }

    static void promise35_item_laneAbove2() {
        refused(BAD, x -> x.item(0, 3, 0, 5));
        refused(BAD, x -> x.item(0, MOST, 0, 5));
    }

    static void promise35_item_badAheadOfNull() {
        refused(BAD, x -> x.item(3, 3, 0, 5));
        refused(BAD, x -> x.item(3, -1, -1, 5));
    }

    static void promise35_item_sheetOfNothing() {
        refused(NULL, x -> x.item(3, 0, 0, 5));
        refused(NULL, x -> x.item(3, 2, -1, 5));
    }

    static void promise35_item_anotherLane() {
        refused(CAST, x -> x.item(0, 1, 0, 5));
        refused(CAST, x -> x.item(0, 2, 0, 5));
        refused(CAST, x -> x.item(1, 0, 0, 5));
        refused(CAST, x -> x.item(2, 1, 0, 5));
    }

    static void promise35_item_castAheadOfIndex() {
        refused(CAST, x -> x.item(0, 1, -1, 5));
        refused(CAST, x -> x.item(0, 1, 5, 5));
        refused(CAST, x -> x.item(1, 0, 0, 5));
    }

    static void promise35_item_placeBelow0() {
        refused(INDEX, x -> x.item(0, 0, -1, 5));
        refused(INDEX, x -> x.item(0, 0, LEAST, 5));
    }

    static void promise35_item_placeBehindTheLast() {
        refused(INDEX, x -> x.item(0, 0, 5, 5));
        refused(INDEX, x -> x.item(0, 0, 24, 5));
        refused(INDEX, x -> x.item(0, 0, MOST, 5));
    }

    static void promise35_item_ofARowOfNoItems() {
        refused(INDEX, x -> x.item(1, 1, 0, 5));
    }

    static void promise35_item_firstAndLastPlace() {
        SlipWheel x = usual();
        due(x.item(0, BYTES, 0, 6), 1);
        due(x.item(0, BYTES, 4, 7), 1);
        due(wordOfItem(x, 0, BYTES, 0), 6);
        due(wordOfItem(x, 0, BYTES, 1), 1);
        due(wordOfItem(x, 0, BYTES, 3), 3);
        due(wordOfItem(x, 0, BYTES, 4), 7);
    }

    // The word that an item reads as once v is put there, or -1.
    static int kept(int lane, int v) {
        SlipWheel x = wheel();
        x.sheet(0, lane, 1);
        due(x.item(0, lane, 0, v), 1);
        return wordOfItem(x, 0, lane, 0);
    }

    static void promise35_item_lowestBitsOfAByte() {
        due(kept(BYTES, 256 + 3), 3);
        due(kept(BYTES, -256 + 3), 3);
        due(kept(BYTES, 65536 + 7), 7);
        due(kept(BYTES, LEAST), 0);
        due(kept(BYTES, LEAST + 5), 5);
    }

    static void promise35_item_lowestBitsOfAShort() {
        due(kept(SHORTS, 65536 + 3), 3);
        due(kept(SHORTS, -65536 + 3), 3);
        due(kept(SHORTS, LEAST), 0);
        due(kept(SHORTS, 256 + 3), -1);
        due(kept(SHORTS, -256 + 3), -1);
        due(kept(SHORTS, 32768 + 3), -1);
    }

    static void promise35_item_allBitsOfAnInt() {
        due(kept(INTS, 3), 3);
        due(kept(INTS, 256 + 3), -1);
        due(kept(INTS, 65536 + 3), -1);
        due(kept(INTS, LEAST), -1);
        due(kept(INTS, LEAST + 3), -1);
    }

    static void promise35_item_withItsSign() {
        for (int lane : LANES) {
            due(kept(lane, -1), -1);
            due(kept(lane, -8), -1);
            due(kept(lane, MOST), -1);
        }
        due(kept(BYTES, 128), -1);
        due(kept(BYTES, 255), -1);
        due(kept(SHORTS, 32768), -1);
        due(kept(SHORTS, 65535), -1);
    }

    static void promise35_item_changesNothingElse() {
        SlipWheel x = usual();
        x.item(0, BYTES, 4, 7);
        x.item(0, BYTES, 4, 4);
        due(portrait(x), portrait(usual()));
    }

    // ---- 36 film

    static void promise36_film_placeBelow0() {
        refused(BAD, x -> x.film(-1, 1, 0, 0, 0));
        refused(BAD, x -> x.film(-1, 2, 0, 0, 0));
        refused(BAD, x -> x.film(LEAST, 24, 0, 0, 0));
    }

    static void promise36_film_placeBehindTheLastWord() {
        refused(BAD, x -> x.film(6, 1, 0, 0, 0));
        refused(BAD, x -> x.film(MOST, 24, 0, 0, 0));
    }

    static void promise36_film_wordsThatAreNotThere() {
        refused(BAD, x -> x.film(5, 2, 0, 0, 0));
        refused(BAD, x -> x.film(2, 5, 0, 0, 0));
        refused(BAD, x -> x.film(0, 7, 0, 0, 0));
    }

    static void promise36_film_ofAnEmptyBook() {
        SlipWheel x = wheel();
        x.sheet(0, BYTES, 1);
        due(x.film(0, 1, 0, BYTES, 0), BAD);
    }

    static void promise36_film_behindAFullBook() {
        SlipWheel x = fullBook(SANE);
        x.sheet(0, BYTES, 24);
        due(x.film(60, 1, 0, BYTES, 0), BAD);
        due(x.film(37, 24, 0, BYTES, 0), BAD);
        due(x.film(36, 24, 0, BYTES, 0), 24);
    }

    static void promise36_film_ofNoWord() {
        refused(BAD, x -> x.film(0, 0, 0, 0, 0));
        refused(BAD, x -> x.film(0, -1, 0, 0, 0));
        refused(BAD, x -> x.film(0, LEAST, 0, 0, 0));
    }

    static void promise36_film_of25Words() {
        SlipWheel x = fullBook(SANE);
        x.sheet(0, BYTES, 24);
        due(x.film(0, 25, 0, BYTES, 0), BAD);
        due(x.film(0, MOST, 0, BYTES, 0), BAD);
    }

    static void promise36_film_sheetBelow0() {
        refused(BAD, x -> x.film(0, 1, -1, 0, 0));
        refused(BAD, x -> x.film(0, 1, LEAST, 0, 0));
    }

    static void promise36_film_sheetAbove3() {
        refused(BAD, x -> x.film(0, 1, 4, 0, 0));
        refused(BAD, x -> x.film(0, 1, MOST, 0, 0));
    }

    static void promise36_film_laneBelow0() {
        refused(BAD, x -> x.film(0, 1, 0, -1, 0));
        refused(BAD, x -> x.film(0, 1, 0, LEAST, 0));
    }

    static void promise36_film_laneAbove2() {
        refused(BAD, x -> x.film(0, 1, 0, 3, 0));
        refused(BAD, x -> x.film(0, 1, 0, MOST, 0));
    }

    static void promise36_film_badAheadOfNull() {
        refused(BAD, x -> x.film(6, 1, 3, 0, 0));
        refused(BAD, x -> x.film(0, 25, 3, 0, 0));
    }

    static void promise36_film_badAheadOfCastAndIndex() {
        refused(BAD, x -> x.film(6, 1, 0, 1, -1));
        refused(BAD, x -> x.film(6, 1, 0, 0, 5));
    }

    static void promise36_film_sheetOfNothing() {
        refused(NULL, x -> x.film(0, 1, 3, 0, 0));
        refused(NULL, x -> x.film(0, 1, 3, 2, -1));
    }

    static void promise36_film_anotherLane() {
        refused(CAST, x -> x.film(1, 1, 0, 1, 0));
        refused(CAST, x -> x.film(1, 1, 0, 2, 0));
        refused(CAST, x -> x.film(1, 1, 1, 2, 0));
        refused(CAST, x -> x.film(1, 1, 2, 0, 0));
    }

    static void promise36_film_castAheadOfIndex() {
        refused(CAST, x -> x.film(1, 1, 0, 1, 5));
        refused(CAST, x -> x.film(1, 1, 0, 1, -1));
    }

    static void promise36_film_fromBelow0() {
        refused(INDEX, x -> x.film(1, 2, 0, 0, -1));
        refused(INDEX, x -> x.film(1, 1, 0, 0, LEAST));
    }

    static void promise36_film_fromTooLarge() {
        refused(INDEX, x -> x.film(1, 1, 0, 0, 5));
        refused(INDEX, x -> x.film(1, 2, 0, 0, 4));
        refused(INDEX, x -> x.film(1, 2, 0, 0, MOST));
    }

    static void promise36_film_moreWordsThanItems() {
        refused(INDEX, x -> x.film(0, 6, 0, 0, 0));
        refused(INDEX, x -> x.film(1, 4, 2, 2, 0));
    }

    static void promise36_film_ontoARowOfNoItems() {
        refused(INDEX, x -> x.film(0, 1, 1, 1, 0));
    }

    static void promise36_film_oneWordToTheLastItem() {
        SlipWheel x = usual();
        due(x.film(5, 1, 0, BYTES, 4), 1);
        due(wordOfItem(x, 0, BYTES, 4), 5);
        due(wordOfItem(x, 0, BYTES, 3), 3);
    }

    static void promise36_film_allItems() {
        SlipWheel x = usual();
        due(x.film(1, 5, 0, BYTES, 0), 5);
        due(x.differ(1, 0, BYTES, 0, 5), 0);
    }

    static void promise36_film_theItemsBesideStay() {
        SlipWheel x = usual();
        due(x.film(4, 2, 0, BYTES, 1), 2);
        due(wordOfItem(x, 0, BYTES, 0), 0);
        due(wordOfItem(x, 0, BYTES, 1), 4);
        due(wordOfItem(x, 0, BYTES, 2), 5);
        due(wordOfItem(x, 0, BYTES, 3), 3);
    }

    static void promise36_film_of24WordsOfEachLane() {
        for (int lane : LANES) {
            SlipWheel x = wheel(SANE);
            x.draw(60);
            x.sheet(3, lane, 24);
            due(x.film(36, 24, 3, lane, 0), 24);
            due(x.differ(36, 3, lane, 0, 24), 0);
            due(x.film(0, 24, 3, lane, 0), 24);
            due(x.differ(0, 3, lane, 0, 24), 0);
        }
    }

    static void promise36_film_theBookStays() {
        SlipWheel x = usual();
        x.film(0, 5, 0, BYTES, 0);
        due(portrait(x), portrait(usual()));
    }
}
