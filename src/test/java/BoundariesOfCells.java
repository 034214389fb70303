// The boundary cases of promises 1 to 13 (the tongue, cells), each sentence that names one by a test of its own.
public final class BoundariesOfCells extends Boundaries {
    public static void main(String[] args) {
        runAll(BoundariesOfCells.class);
    }

    // ---- 1 a new object

    static void promise01_new_holdsNoCell() {
        due(new SlipWheel().count(0), 0);
    }

    static void promise01_new_nobodyIsNotDead() {
        due(new SlipWheel().count(1), 0);
    }

    static void promise01_new_bookIsEmpty() {
        due(new SlipWheel().count(2), 0);
    }

    static void promise01_new_noLine() {
        due(new SlipWheel().count(3), 0);
    }

    static void promise01_new_isNotStuck() {
        due(new SlipWheel().count(5), 0);
    }

    static void promise01_new_isNobodysTurn() {
        due(new SlipWheel().count(6), NONE);
    }

    static void promise01_new_noTurnsSoFar() {
        due(new SlipWheel().count(7), 0);
    }

    static void promise01_new_allMayFollowEach() {
        SlipWheel x = new SlipWheel();
        for (int word = 0; word < 8; word++) {
            due(x.follow(word, 0), 255);
        }
    }

    static void promise01_new_theDrawIs1() {
        due(new SlipWheel().seed(0), 1);
    }

    static void promise01_new_theWheelGoesForwards() {
        due(new SlipWheel().turn(true), 0);
    }

    static void promise01_new_theTapeIsEmpty() {
        due(new SlipWheel().type('a', 1), 1);
    }

    static void promise01_new_noImage() {
        due(new SlipWheel().restore(), NONE);
    }

    static void promise01_new_eachSheetHoldsNothing() {
        SlipWheel x = new SlipWheel();
        for (int sheet = 0; sheet < 4; sheet++) {
            due(x.drop(sheet), NULL);
        }
    }

    static void promise01_new_isApartFromAnother() {
        SlipWheel other = usual();
        other.image();
        due(portrait(new SlipWheel()), portrait(wheel()));
        due(new SlipWheel().count(0), 0);
    }

    static void promise01_new_refusalsAreAsTold() {
        due(SlipWheel.BAD, -1);
        due(SlipWheel.NOT, -2);
        due(SlipWheel.FULL, -3);
        due(SlipWheel.NONE, -4);
        due(SlipWheel.NULL, -11);
        due(SlipWheel.CAST, -12);
        due(SlipWheel.INDEX, -13);
        due(SlipWheel.SIZE, -14);
    }

    // ---- 2 follow

    static void promise02_follow_wordBelow0() {
        refused(BAD, x -> x.follow(-1, 0));
    }

    static void promise02_follow_wordAbove7() {
        refused(BAD, x -> x.follow(8, 0));
    }

    static void promise02_follow_wordsFarOff() {
        refused(BAD, x -> x.follow(LEAST, 0));
        refused(BAD, x -> x.follow(MOST, 0));
    }

    static void promise02_follow_firstWord() {
        SlipWheel x = wheel(SANE);
        x.follow(0, set("c"));
        book(x, "a");
        due(x.come(0), set("c"));
    }

    static void promise02_follow_lastWord() {
        SlipWheel x = wheel(SANE);
        x.follow(7, set("c"));
        book(x, "h");
        due(x.come(0), set("c"));
    }

    static void promise02_follow_setBelowNone() {
        refused(BAD, x -> x.follow(3, -1));
    }

    static void promise02_follow_setAboveAll() {
        refused(BAD, x -> x.follow(3, 256));
    }

    static void promise02_follow_setsFarOff() {
        refused(BAD, x -> x.follow(3, LEAST));
        refused(BAD, x -> x.follow(3, MOST));
    }

    static void promise02_follow_emptySet() {
        SlipWheel x = wheel(SANE);
        due(x.follow(3, 0), 255);
        book(x, "d");
        due(x.come(0), 0);
    }

    static void promise02_follow_wholeSet() {
        SlipWheel x = wheel(SANE);
        x.follow(3, 0);
        due(x.follow(3, 255), 0);
        book(x, "d");
        due(x.come(0), 255);
    }

    static void promise02_follow_answersWhatTheyWere() {
        SlipWheel x = wheel();
        x.follow(3, 129);
        due(x.follow(3, 129), 129);
        due(x.follow(3, 1), 129);
    }

    static void promise02_follow_neighboursStay() {
        SlipWheel x = wheel();
        x.follow(3, 0);
        due(x.follow(2, 255), 255);
        due(x.follow(4, 255), 255);
    }

    // ---- 3 line

    static SlipWheel withSixLines() {
        SlipWheel x = usual();
        for (String words : new String[] {"h", "ghgh", "fff"}) {
            line(x, words);
        }
        return x;
    }

    static void promise03_line_ofNoWord() {
        refused(BAD, x -> x.line(0, 0));
    }

    static void promise03_line_ofLessThanNoWord() {
        refused(BAD, x -> x.line(0, -1));
        refused(BAD, x -> x.line(0, LEAST));
    }

    static void promise03_line_ofFiveWords() {
        refused(BAD, x -> x.line(0, 5));
        refused(BAD, x -> x.line(0, MOST));
    }

    static void promise03_line_ofOneWord() {
        SlipWheel x = wheel(SANE);
        due(x.line(7, 1), 0);
        due(x.come(0), set("abcdefg"));
        book(x, "h");
        due(x.come(0), set("abcdefg"));
    }

    static void promise03_line_ofTwoWords() {
        SlipWheel x = wheel(SANE);
        due(x.line(63, 2), 0);
        due(x.come(0), 255);
        book(x, "h");
        due(x.come(0), set("abcdefg"));
    }

    static void promise03_line_ofThreeWords() {
        SlipWheel x = wheel(SANE);
        due(x.line(511, 3), 0);
        book(x, "h");
        due(x.come(0), 255);
        book(x, "hh");
        due(x.come(0), set("abcdefg"));
    }

    static void promise03_line_ofFourWords() {
        SlipWheel x = wheel(SANE);
        due(x.line(4095, 4), 0);
        book(x, "hh");
        due(x.come(0), 255);
        book(x, "hhh");
        due(x.come(0), set("abcdefg"));
    }

    static void promise03_line_wordsBelow0() {
        for (int n = 1; n <= 4; n++) {
            int length = n;
            refused(BAD, x -> x.line(-1, length));
            refused(BAD, x -> x.line(LEAST, length));
        }
    }

    static void promise03_line_wordsOfMoreDigits() {
        refused(BAD, x -> x.line(8, 1));
        refused(BAD, x -> x.line(64, 2));
        refused(BAD, x -> x.line(512, 3));
        refused(BAD, x -> x.line(4096, 4));
        refused(BAD, x -> x.line(MOST, 4));
    }

    static void promise03_line_firstDigitsOf0Count() {
        SlipWheel x = wheel(SANE);
        x.line(1, 3);
        book(x, "a");
        due(x.come(0), 255);
        book(x, "aa");
        due(x.come(0), 255 & ~set("b"));
    }

    static void promise03_line_lastDigitIsTheLastWord() {
        SlipWheel x = wheel(SANE);
        x.line(022 * 8 + 5, 3);
        book(x, "cc");
        due(x.come(0), 255 & ~set("f"));
        book(x, "fc");
        due(x.come(0), 255);
    }

    static void promise03_line_numbersFrom0To5() {
        SlipWheel x = wheel();
        for (int number = 0; number < 6; number++) {
            due(x.line(number, 1), number);
        }
    }

    static void promise03_line_theSixthStands() {
        SlipWheel x = wheel(SANE);
        for (int word = 0; word < 6; word++) {
            x.line(word, 1);
        }
        due(x.come(0), set("gh"));
    }

    static void promise03_line_theSeventhIsFull() {
        refused(BoundariesOfCells::withSixLines, FULL, x -> x.line(0, 1));
    }

    static void promise03_line_badAheadOfFull() {
        refused(BoundariesOfCells::withSixLines, BAD, x -> x.line(0, 5));
        refused(BoundariesOfCells::withSixLines, BAD, x -> x.line(8, 1));
    }

    static void promise03_line_likeOneBeforeIsOneMore() {
        SlipWheel x = wheel();
        x.line(5, 1);
        due(x.line(5, 1), 1);
        due(x.count(3), 2);
    }

    // ---- 4 cell

    static SlipWheel withSixCells() {
        SlipWheel x = usual();
        x.cell(SANE);
        x.cell(MUTE);
        return x;
    }

    static void promise04_cell_kindBelow0() {
        refused(BAD, x -> x.cell(-1));
        refused(BAD, x -> x.cell(LEAST));
    }

    static void promise04_cell_kindAbove3() {
        refused(BAD, x -> x.cell(4));
        refused(BAD, x -> x.cell(MOST));
    }

    static void promise04_cell_firstKind() {
        SlipWheel x = wheel();
        due(x.cell(0), 0);
        due(x.told(0, 0), 0);
    }

    static void promise04_cell_lastKind() {
        SlipWheel x = wheel();
        due(x.cell(3), 0);
        due(x.told(0, 0), 3);
    }

    static void promise04_cell_numbersFrom0To5() {
        SlipWheel x = wheel();
        for (int number = 0; number < 6; number++) {
            due(x.cell(SANE), number);
        }
    }

    static void promise04_cell_theSixthHasItsTurn() {
        SlipWheel x = wheel(SANE, SANE, SANE, SANE, SANE, SANE);
        add(x, "abcde");
        due(x.add(5), 5);
    }

    static void promise04_cell_theSeventhIsFull() {
        refused(BoundariesOfCells::withSixCells, FULL, x -> x.cell(SANE));
    }

    static void promise04_cell_badAheadOfFull() {
        refused(BoundariesOfCells::withSixCells, BAD, x -> x.cell(4));
        refused(BoundariesOfCells::withSixCells, BAD, x -> x.cell(-1));
    }

    static void promise04_cell_seatBehindAll() {
        SlipWheel x = wheel(SANE, SANE);
        x.swap(0, 1);
        x.cell(SANE);
        due(x.told(2, 1), 2);
    }

    static void promise04_cell_seatBehindDeadOnes() {
        SlipWheel x = wheel(SANE);
        x.dead(0, true);
        x.cell(SANE);
        due(x.told(1, 1), 1);
    }

    static void promise04_cell_weightsAre1AtFirst() {
        SlipWheel x = wheel(SANE, SANE, SANE, SANE, SANE, SANE);
        for (int cell = 0; cell < 6; cell++) {
            for (int what = 3; what <= 10; what++) {
                due(x.told(cell, what), 1);
            }
        }
    }

    static void promise04_cell_isNotDeadAtFirst() {
        due(wheel(SANE).told(0, 2), 0);
    }

    static void promise04_cell_theFirstHasTheTurn() {
        due(wheel(SANE).count(6), 0);
        due(wheel(SANE, SANE).count(6), 0);
    }

    // ---- 5 weight

    static void promise05_weight_cellBelow0() {
        refused(BAD, x -> x.weight(-1, 0, 1));
        refused(BAD, x -> x.weight(LEAST, 0, 1));
    }

    static void promise05_weight_cellThatIsNot() {
        refused(BAD, x -> x.weight(4, 0, 1));
        refused(BAD, x -> x.weight(MOST, 0, 1));
        refused(SlipWheel::new, BAD, x -> x.weight(0, 0, 1));
    }

    static void promise05_weight_cellBehindTheLast() {
        refused(BoundariesOfCells::withSixCells, BAD, x -> x.weight(6, 0, 1));
    }

    static void promise05_weight_wordBelow0() {
        refused(BAD, x -> x.weight(1, -1, 5));
        refused(BAD, x -> x.weight(1, LEAST, 5));
    }

    static void promise05_weight_wordAbove7() {
        refused(BAD, x -> x.weight(1, 8, 5));
        refused(BAD, x -> x.weight(1, MOST, 5));
    }

    static void promise05_weight_below0() {
        refused(BAD, x -> x.weight(1, 3, -1));
        refused(BAD, x -> x.weight(1, 3, LEAST));
    }

    static void promise05_weight_above9() {
        refused(BAD, x -> x.weight(1, 3, 10));
        refused(BAD, x -> x.weight(1, 3, MOST));
    }

    static void promise05_weight_of0() {
        SlipWheel x = wheel(SANE);
        due(x.weight(0, 3, 0), 1);
        due(x.told(0, 6), 0);
    }

    static void promise05_weight_of9() {
        SlipWheel x = wheel(SANE);
        due(x.weight(0, 3, 9), 1);
        due(x.told(0, 6), 9);
    }

    static void promise05_weight_answersWhatItWas() {
        SlipWheel x = wheel(SANE);
        x.weight(0, 3, 7);
        due(x.weight(0, 3, 7), 7);
        due(x.weight(0, 3, 0), 7);
    }

    static void promise05_weight_answersWhatItWasOfEachCell() {
        SlipWheel x = wheel(SANE, SANE, SANE, SANE, SANE, SANE);
        for (int cell = 0; cell < 6; cell++) {
            x.weight(cell, 0, cell + 2);
            x.weight(cell, 7, cell + 3);
        }
        for (int cell = 0; cell < 6; cell++) {
            due(x.weight(cell, 0, 0), cell + 2);
            due(x.weight(cell, 7, 0), cell + 3);
        }
    }

    static void promise05_weight_firstAndLastOnes() {
        SlipWheel x = wheel(SANE, SANE, SANE, SANE, SANE, SANE);
        x.weight(0, 0, 2);
        x.weight(0, 7, 3);
        x.weight(5, 0, 4);
        x.weight(5, 7, 5);
        due(x.told(0, 3), 2);
        due(x.told(0, 10), 3);
        due(x.told(1, 3), 1);
        due(x.told(4, 10), 1);
        due(x.told(5, 3), 4);
        due(x.told(5, 10), 5);
    }

    // ---- 6 dead

    static void promise06_dead_cellBelow0() {
        refused(BAD, x -> x.dead(-1, true));
        refused(BAD, x -> x.dead(LEAST, true));
    }

    static void promise06_dead_cellThatIsNot() {
        refused(BAD, x -> x.dead(4, true));
        refused(BAD, x -> x.dead(MOST, true));
        refused(SlipWheel::new, BAD, x -> x.dead(0, true));
    }

    static void promise06_dead_cellBehindTheLast() {
        refused(BoundariesOfCells::withSixCells, BAD, x -> x.dead(6, true));
    }

    static void promise06_dead_answersWhetherItWas() {
        SlipWheel x = wheel(SANE);
        due(x.dead(0, false), 0);
        due(x.dead(0, true), 0);
        due(x.dead(0, true), 1);
        due(x.dead(0, false), 1);
        due(x.dead(0, false), 0);
    }

    static void promise06_dead_firstAndLastCell() {
        SlipWheel x = wheel(SANE, SANE, SANE, SANE, SANE, SANE);
        x.dead(0, true);
        x.dead(5, true);
        due(x.count(1), 4);
        due(x.told(0, 2), 1);
        due(x.told(5, 2), 1);
    }

    static void promise06_dead_hasNoTurn() {
        SlipWheel x = wheel(SANE, SANE, SANE);
        x.dead(1, true);
        due(x.add(0), 0);
        due(x.add(0), 2);
    }

    static void promise06_dead_onTheLastSeatTheWheelComesRound() {
        SlipWheel x = wheel(SANE, SANE, SANE);
        x.dead(2, true);
        add(x, "aa");
        due(x.count(6), 0);
    }

    static void promise06_dead_theNextOnesTurnRoundTheLastSeat() {
        SlipWheel x = wheel(SANE, SANE, SANE);
        add(x, "aa");
        x.dead(2, true);
        due(x.count(6), 0);
        due(x.add(0), 0);
        due(x.count(6), 1);
    }

    static void promise06_dead_moreInARowArePassed() {
        SlipWheel x = wheel(SANE, SANE, SANE, SANE, SANE, SANE);
        for (int cell = 1; cell < 5; cell++) {
            x.dead(cell, true);
        }
        due(x.add(0), 0);
        due(x.add(0), 5);
        due(x.add(0), 0);
    }

    static void promise06_dead_allButOneHasEachTurn() {
        SlipWheel x = wheel(SANE, SANE, SANE);
        x.dead(0, true);
        x.dead(2, true);
        due(x.add(0), 1);
        due(x.add(0), 1);
        x.turn(true);
        due(x.add(0), 1);
    }

    static void promise06_dead_allHaveNoTurn() {
        SlipWheel x = wheel(SANE, SANE);
        x.dead(0, true);
        x.dead(1, true);
        due(x.count(1), 0);
        due(x.count(6), NONE);
    }

    static void promise06_dead_notAnyMoreHasItsTurnAgain() {
        SlipWheel x = wheel(SANE, SANE);
        x.dead(0, true);
        due(x.count(6), 1);
        x.dead(0, false);
        due(x.count(6), 0);
    }

    static void promise06_dead_keepsItsSeatAndWeights() {
        SlipWheel x = wheel(SANE, SANE);
        x.weight(1, 4, 6);
        x.dead(1, true);
        due(x.told(1, 1), 1);
        due(x.told(1, 7), 6);
        due(x.count(0), 2);
    }

    // ---- 7 swap

    static void promise07_swap_firstBelow0() {
        refused(BAD, x -> x.swap(-1, 0));
        refused(BAD, x -> x.swap(LEAST, 0));
    }

    static void promise07_swap_otherBelow0() {
        refused(BAD, x -> x.swap(0, -1));
        refused(BAD, x -> x.swap(0, LEAST));
    }

    static void promise07_swap_firstThatIsNot() {
        refused(BAD, x -> x.swap(4, 0));
        refused(BAD, x -> x.swap(MOST, 0));
        refused(SlipWheel::new, BAD, x -> x.swap(0, 1));
    }

    static void promise07_swap_otherThatIsNot() {
        refused(BAD, x -> x.swap(0, 4));
        refused(BAD, x -> x.swap(0, MOST));
        refused(() -> wheel(SANE), BAD, x -> x.swap(0, 1));
    }

    static void promise07_swap_cellBehindTheLast() {
        refused(BoundariesOfCells::withSixCells, BAD, x -> x.swap(6, 0));
        refused(BoundariesOfCells::withSixCells, BAD, x -> x.swap(0, 6));
    }

    static void promise07_swap_oneCell() {
        refused(BAD, x -> x.swap(2, 2));
        refused(BAD, x -> x.swap(0, 0));
    }

    static void promise07_swap_onesThatAreNot() {
        refused(BAD, x -> x.swap(4, 4));
    }

    static void promise07_swap_theOnlyTwo() {
        SlipWheel x = wheel(SANE, SANE);
        due(x.swap(0, 1), 1);
        due(x.told(0, 1), 1);
        due(x.told(1, 1), 0);
    }

    static void promise07_swap_firstAndLastSeat() {
        SlipWheel x = wheel(SANE, SANE, SANE, SANE, SANE, SANE);
        due(x.swap(5, 0), 0);
        due(x.told(0, 1), 5);
        due(x.told(5, 1), 0);
        due(x.told(1, 1), 1);
        due(x.told(4, 1), 4);
    }

    static void promise07_swap_answersTheSeatNotTheNumber() {
        SlipWheel x = wheel(SANE, SANE, SANE);
        x.swap(0, 1);
        due(x.swap(0, 2), 2);
        due(x.swap(1, 2), 1);
    }

    static void promise07_swap_theWheelStaysAtItsSeat() {
        SlipWheel x = wheel(SANE, SANE, SANE);
        x.swap(0, 2);
        due(x.count(6), 2);
        due(x.count(7), 0);
    }

    static void promise07_swap_twiceIsAsBefore() {
        SlipWheel x = usual();
        x.swap(0, 3);
        x.swap(0, 3);
        due(portrait(x), portrait(usual()));
    }

    static void promise07_swap_deadOnesToo() {
        SlipWheel x = wheel(SANE, SANE);
        x.dead(0, true);
        due(x.swap(0, 1), 1);
        due(x.count(6), 1);
        due(x.told(0, 2), 1);
    }

    // ---- 8 turn

    static void promise08_turn_answersWhatItWas() {
        SlipWheel x = wheel();
        due(x.turn(false), 0);
        due(x.turn(true), 0);
        due(x.turn(true), 1);
        due(x.turn(false), 1);
        due(x.turn(false), 0);
    }

    static void promise08_turn_itselfIsNoTurn() {
        SlipWheel x = wheel(SANE, SANE, SANE);
        x.turn(true);
        due(x.count(7), 0);
        due(x.count(6), 0);
    }

    static void promise08_turn_forwardsRoundFromTheLastSeat() {
        SlipWheel x = wheel(SANE, SANE, SANE);
        add(x, "aa");
        due(x.add(0), 2);
        due(x.count(6), 0);
    }

    static void promise08_turn_backwardsRoundFromTheFirstSeat() {
        SlipWheel x = wheel(SANE, SANE, SANE);
        x.turn(true);
        due(x.add(0), 0);
        due(x.count(6), 2);
    }

    static void promise08_turn_backwardsRoundAllSix() {
        SlipWheel x = wheel(SANE, SANE, SANE, SANE, SANE, SANE);
        x.turn(true);
        for (int cell = 6; cell >= 0; cell--) {
            due(x.add(0), cell % 6);
        }
    }

    static void promise08_turn_backwardsPastADeadOneOnTheLastSeat() {
        SlipWheel x = wheel(SANE, SANE, SANE);
        x.dead(2, true);
        x.turn(true);
        due(x.add(0), 0);
        due(x.count(6), 1);
    }

    static void promise08_turn_ofADeadOneIsTheOneAheads() {
        SlipWheel x = wheel(SANE, SANE, SANE, SANE);
        add(x, "a");
        x.dead(1, true);
        due(x.count(6), 2);
        x.turn(true);
        due(x.count(6), 0);
    }

    static void promise08_turn_ofADeadOneOnTheFirstSeatRound() {
        SlipWheel x = wheel(SANE, SANE, SANE);
        x.dead(0, true);
        x.turn(true);
        due(x.count(6), 2);
        due(x.add(0), 2);
        due(x.count(6), 1);
    }

    static void promise08_turn_oneCellAloneEitherWay() {
        SlipWheel x = wheel(SANE);
        due(x.add(0), 0);
        x.turn(true);
        due(x.add(0), 0);
        due(x.add(0), 0);
    }

    static void promise08_turn_withNoCell() {
        SlipWheel x = wheel();
        x.turn(true);
        due(x.count(6), NONE);
        x.cell(SANE);
        due(x.count(6), 0);
    }

    // ---- 9 told

    static void promise09_told_cellBelow0() {
        refused(BAD, x -> x.told(-1, 0));
        refused(BAD, x -> x.told(LEAST, 0));
    }

    static void promise09_told_cellThatIsNot() {
        refused(BAD, x -> x.told(4, 0));
        refused(BAD, x -> x.told(MOST, 10));
        refused(SlipWheel::new, BAD, x -> x.told(0, 0));
    }

    static void promise09_told_cellBehindTheLast() {
        refused(BoundariesOfCells::withSixCells, BAD, x -> x.told(6, 1));
    }

    static void promise09_told_whatBelow0() {
        refused(BAD, x -> x.told(1, -1));
        refused(BAD, x -> x.told(1, LEAST));
    }

    static void promise09_told_whatAbove10() {
        refused(BAD, x -> x.told(1, 11));
        refused(BAD, x -> x.told(1, MOST));
    }

    static void promise09_told_0IsTheKind() {
        SlipWheel x = wheel(SANE, MAD, BLIND, MUTE);
        for (int cell = 0; cell < 4; cell++) {
            due(x.told(cell, 0), cell);
        }
    }

    static void promise09_told_1IsTheSeat() {
        SlipWheel x = wheel(SANE, SANE, SANE, SANE, SANE, SANE);
        x.swap(0, 5);
        due(x.told(0, 1), 5);
        due(x.told(5, 1), 0);
    }

    static void promise09_told_2IsWhetherDead() {
        SlipWheel x = wheel(SANE, SANE);
        x.dead(1, true);
        due(x.told(0, 2), 0);
        due(x.told(1, 2), 1);
    }

    static void promise09_told_3To10AreTheWeights() {
        SlipWheel x = wheel(SANE);
        for (int word = 0; word < 8; word++) {
            x.weight(0, word, word + 2);
        }
        for (int word = 0; word < 8; word++) {
            due(x.told(0, 3 + word), word + 2);
        }
    }

    // ---- 10 type

    static SlipWheel withTapeOf(int bytes) {
        SlipWheel x = new SlipWheel();
        typed(x, "a".repeat(bytes));
        return x;
    }

    static void promise10_type_noByte() {
        refused(BAD, x -> x.type(0x6161616161616161L, 0));
    }

    static void promise10_type_lessThanNoByte() {
        refused(BAD, x -> x.type(0x6161616161616161L, -1));
        refused(BAD, x -> x.type(0x6161616161616161L, LEAST));
    }

    static void promise10_type_nineBytes() {
        refused(BAD, x -> x.type(0x6161616161616161L, 9));
        refused(BAD, x -> x.type(0x6161616161616161L, MOST));
    }

    static void promise10_type_oneByte() {
        SlipWheel x = new SlipWheel();
        due(x.type('h', 1), 1);
        x.book();
        due(pages(x), "h");
    }

    static void promise10_type_eightBytes() {
        SlipWheel x = new SlipWheel();
        due(x.type(0x6162636465666768L, 8), 8);
        x.book();
        due(pages(x), "abcdefgh");
    }

    static void promise10_type_lowestBytesAlone() {
        SlipWheel x = new SlipWheel();
        due(x.type(0x0001FF7F80006263L, 2), 2);
        x.book();
        due(pages(x), "bc");
    }

    static void promise10_type_lowestBytesOfANumberBelow0() {
        SlipWheel x = new SlipWheel();
        due(x.type(0xFF61626364656667L, 7), 7);
        x.book();
        due(pages(x), "abcdefg");
    }

    static void promise10_type_byte31() {
        refused(BAD, x -> x.type(31, 1));
    }

    static void promise10_type_byte32() {
        SlipWheel x = new SlipWheel();
        due(x.type(32, 1), 1);
        due(x.book(), 0);
    }

    static void promise10_type_byte126() {
        SlipWheel x = new SlipWheel();
        due(x.type(126, 1), 1);
        due(x.book(), -20);
    }

    static void promise10_type_byte127() {
        refused(BAD, x -> x.type(127, 1));
    }

    static void promise10_type_byte0() {
        refused(BAD, x -> x.type(0, 1));
        refused(BAD, x -> x.type('a', 2));
    }

    static void promise10_type_bytesWithTheHighestBit() {
        refused(BAD, x -> x.type(128, 1));
        refused(BAD, x -> x.type(255, 1));
        refused(BAD, x -> x.type(0x80 + 'a', 1));
        refused(BAD, x -> x.type(-1L, 8));
        refused(BAD, x -> x.type(Long.MIN_VALUE, 8));
    }

    static void promise10_type_badByteAtEachPlace() {
        for (int place = 0; place < 8; place++) {
            long w = 0x6161616161616161L ^ (0x60L << 8 * place);
            refused(BAD, x -> x.type(w, 8));
        }
    }

    static void promise10_type_to80() {
        due(withTapeOf(72).type(0x6161616161616161L, 8), 80);
        due(withTapeOf(79).type('a', 1), 80);
    }

    static void promise10_type_beyond80IsFull() {
        refused(() -> withTapeOf(80), FULL, x -> x.type('a', 1));
        refused(() -> withTapeOf(80), FULL, x -> x.type(0x6161616161616161L, 8));
        refused(() -> withTapeOf(79), FULL, x -> x.type(0x6161, 2));
        refused(() -> withTapeOf(73), FULL, x -> x.type(0x6161616161616161L, 8));
    }

    static void promise10_type_badAheadOfFull() {
        refused(() -> withTapeOf(80), BAD, x -> x.type(31, 1));
        refused(() -> withTapeOf(80), BAD, x -> x.type('a', 0));
        refused(() -> withTapeOf(80), BAD, x -> x.type('a', 9));
    }

    static void promise10_type_comesBehindTheTape() {
        SlipWheel x = new SlipWheel();
        x.type('a', 1);
        due(x.type('b' << 8 | 'c', 2), 3);
        x.book();
        due(pages(x), "abc");
    }

    // ---- 11 tongue

    static void fault(String text, int place) {
        SlipWheel x = usual();
        x.tongue();
        SlipWheel alike = usual();
        alike.tongue();
        due(tongue(x, text), -20 - place);
        due(portrait(x), portrait(alike));
    }

    static void promise11_tongue_ofNoByte() {
        fault("", 0);
    }

    static void promise11_tongue_ofBlanksAlone() {
        fault(" ", 1);
        fault("   ", 3);
    }

    static void promise11_tongue_ofOneWord() {
        SlipWheel x = wheel();
        due(tongue(x, "h"), 1);
        due(x.follow(0, 0), set("h"));
        due(x.follow(1, 0), 255);
    }

    static void promise11_tongue_ofEightWords() {
        SlipWheel x = wheel();
        due(tongue(x, "a;b;c;d;e;f;g;ah"), 8);
        due(x.follow(0, 0), set("a"));
        due(x.follow(6, 0), set("g"));
        due(x.follow(7, 0), set("ah"));
    }

    static void promise11_tongue_ofNineWords() {
        fault("a;a;a;a;a;a;a;a;a", 15);
        fault("-;-;-;-;-;-;-;-;", 15);
    }

    static void promise11_tongue_allLetters() {
        SlipWheel x = wheel();
        x.follow(0, 0);
        due(tongue(x, "abcdefgh"), 1);
        due(x.follow(0, 0), 255);
    }

    static void promise11_tongue_none() {
        SlipWheel x = wheel();
        due(tongue(x, "-"), 1);
        due(x.follow(0, 255), 0);
    }

    static void promise11_tongue_letterBehindNone() {
        fault("-a", 1);
        fault("-h", 1);
    }

    static void promise11_tongue_noneBehindALetter() {
        fault("a-", 1);
        fault("h-", 1);
    }

    static void promise11_tongue_noneTwice() {
        fault("--", 1);
    }

    static void promise11_tongue_aLetterTwice() {
        fault("aa", 1);
        fault("hh", 1);
        fault("a;bb", 3);
    }

    static void promise11_tongue_lettersNotInOrder() {
        fault("ba", 1);
        fault("ahg", 2);
    }

    static void promise11_tongue_orderBeginsAnewWithEachWord() {
        SlipWheel x = wheel();
        due(tongue(x, "h;a;-;a"), 4);
        due(x.follow(1, 0), 1);
        due(x.follow(3, 0), 1);
    }

    static void promise11_tongue_bytesBesideTheLetters() {
        fault("`", 0);
        fault("a;`", 2);
        fault("i", 0);
        fault("-;i", 2);
        fault("A", 0);
        fault("a~", 1);
        fault("a!", 1);
        fault("a,b", 1);
        fault("a:b", 1);
    }

    static void promise11_tongue_nothingAheadOfTheFirstSemicolon() {
        fault(";a", 0);
        fault(" ;a", 1);
    }

    static void promise11_tongue_nothingBetweenSemicolons() {
        fault("a;;b", 2);
        fault("a; ;b", 3);
    }

    static void promise11_tongue_nothingBehindTheLastSemicolon() {
        fault("a;", 2);
        fault("a; ", 3);
        fault("-;-;", 4);
    }

    static void promise11_tongue_blanksAnywhere() {
        SlipWheel x = wheel();
        due(tongue(x, " a  b ; - ;c "), 3);
        due(x.follow(0, 0), set("ab"));
        due(x.follow(1, 255), 0);
        due(x.follow(2, 0), set("c"));
    }

    static void promise11_tongue_blanksCountInThePlace() {
        fault("  x", 2);
        fault("a b a", 4);
        fault("- -", 2);
    }

    static void promise11_tongue_faultAtTheLastByteOf80() {
        fault("a" + " ".repeat(78) + "a", 79);
    }

    static void promise11_tongue_faultAtTheEndOf80() {
        fault(" ".repeat(80), 80);
        fault("a" + " ".repeat(78) + ";", 80);
    }

    static void promise11_tongue_of80Bytes() {
        SlipWheel x = wheel();
        due(tongue(x, " ".repeat(79) + "c"), 1);
        due(x.follow(0, 0), set("c"));
    }

    static void promise11_tongue_theFirstFaultIsTold() {
        fault("a;x;;aa", 2);
    }

    static void promise11_tongue_aLateFaultLeavesAllWords() {
        SlipWheel x = wheel();
        x.follow(0, 9);
        due(tongue(x, "b;c;x"), -24);
        due(x.follow(0, 0), 9);
        due(x.follow(1, 0), 255);
        due(tongue(x, "b;c;"), -24);
        due(x.follow(0, 9), 0);
    }

    static void promise11_tongue_theTapeIsEmptyBehindAFault() {
        SlipWheel x = wheel();
        due(tongue(x, "axb"), -21);
        due(x.type('a', 1), 1);
    }

    static void promise11_tongue_theTapeIsEmptyBehindATongue() {
        SlipWheel x = wheel();
        due(tongue(x, "abc"), 1);
        due(x.type('a', 1), 1);
        due(x.tongue(), 1);
        due(x.follow(0, 0), 1);
    }

    static void promise11_tongue_wordsNotToldStay() {
        SlipWheel x = wheel();
        x.follow(1, 6);
        x.follow(7, 5);
        due(tongue(x, "a"), 1);
        due(x.follow(1, 0), 6);
        due(x.follow(7, 0), 5);
    }

    static void promise11_tongue_inPlaceOfWhatMightFollow() {
        SlipWheel x = wheel();
        tongue(x, "a;bh;c");
        due(tongue(x, "b;c;-"), 3);
        due(x.follow(0, 0), set("b"));
        due(x.follow(1, 0), set("c"));
        due(x.follow(2, 255), 0);
    }

    static void promise11_tongue_theBookStays() {
        SlipWheel x = wheel(SANE);
        add(x, "hh");
        tongue(x, "a;a;a;a;a;a;a;a");
        due(pages(x), "hh");
        due(x.read(1, 1), 0);
    }

    // ---- 12 book

    static void bookFault(String text, int place) {
        SlipWheel x = usual();
        x.tongue();
        SlipWheel alike = usual();
        alike.tongue();
        due(book(x, text), -20 - place);
        due(portrait(x), portrait(alike));
    }

    static void promise12_book_ofNoByte() {
        SlipWheel x = wheel(SANE);
        add(x, "abc");
        due(x.book(), 0);
        due(x.count(2), 0);
    }

    static void promise12_book_ofBlanksAlone() {
        SlipWheel x = wheel(SANE);
        add(x, "abc");
        due(book(x, " ".repeat(80)), 0);
        due(x.count(2), 0);
    }

    static void promise12_book_ofOneWord() {
        SlipWheel x = wheel();
        due(book(x, "h"), 1);
        due(pages(x), "h");
    }

    static void promise12_book_of24Words() {
        SlipWheel x = wheel();
        due(book(x, "abcdefghabcdefghabcdefgh"), 24);
        due(pages(x), "abcdefghabcdefghabcdefgh");
    }

    static void promise12_book_of25Words() {
        bookFault("aaaaaaaaaaaaaaaaaaaaaaaaa", 24);
        bookFault("aaaaaaaaaaaaaaaaaaaaaaaa  a", 26);
    }

    static void promise12_book_blanksBehind24Words() {
        SlipWheel x = wheel();
        due(book(x, "aaaaaaaaaaaaaaaaaaaaaaaa" + " ".repeat(56)), 24);
    }

    static void promise12_book_blanksAnywhere() {
        SlipWheel x = wheel();
        due(book(x, "  a b  h "), 3);
        due(pages(x), "abh");
    }

    static void promise12_book_blanksCountInThePlace() {
        bookFault(" a  x", 4);
    }

    static void promise12_book_bytesBesideTheLetters() {
        bookFault("`", 0);
        bookFault("i", 0);
        bookFault("A", 0);
        bookFault("a~", 1);
        bookFault("a!", 1);
        bookFault("a;b", 1);
        bookFault("-", 0);
        bookFault("a0", 1);
    }

    static void promise12_book_faultAtTheLastByteOf80() {
        bookFault(" ".repeat(79) + "i", 79);
    }

    static void promise12_book_theFirstFaultIsTold() {
        bookFault("axyz", 1);
    }

    static void promise12_book_theTapeIsEmptyBehindAFault() {
        SlipWheel x = wheel();
        due(book(x, "ax"), -21);
        due(x.type('a', 1), 1);
    }

    static void promise12_book_theTapeIsEmptyBehindABook() {
        SlipWheel x = wheel();
        book(x, "ab");
        due(x.type('c', 1), 1);
        due(x.book(), 1);
        due(pages(x), "c");
    }

    static void promise12_book_inPlaceOfALongerOne() {
        SlipWheel x = fullBook(SANE);
        due(book(x, "bc"), 2);
        due(pages(x), "bc");
        due(x.read(2, 0), BAD);
    }

    static void promise12_book_writersAreForgotten() {
        SlipWheel x = wheel(SANE);
        add(x, "abc");
        book(x, "abc");
        due(x.count(4), 0);
        due(x.read(0, 1), NONE);
        due(x.read(2, 1), NONE);
    }

    static void promise12_book_theTurnStays() {
        SlipWheel x = wheel(SANE, SANE, SANE);
        add(x, "ab");
        book(x, "h");
        due(x.count(6), 2);
        due(x.count(7), 2);
    }

    static void promise12_book_ofWordsThatMayNotCome() {
        SlipWheel x = wheel(SANE);
        x.follow(0, 0);
        line(x, "b");
        due(book(x, "aabb"), 4);
        due(pages(x), "aabb");
    }

    static void promise12_book_theTongueStays() {
        SlipWheel x = wheel();
        x.follow(0, 3);
        book(x, "abc");
        due(x.follow(0, 0), 3);
    }

    // ---- 13 count

    static void promise13_count_whatBelow0() {
        refused(BAD, x -> x.count(-1));
        refused(BAD, x -> x.count(LEAST));
    }

    static void promise13_count_whatAbove7() {
        refused(BAD, x -> x.count(8));
        refused(BAD, x -> x.count(MOST));
    }

    static void promise13_count_cellsTo6() {
        SlipWheel x = wheel(SANE, MAD, BLIND, MUTE, SANE, SANE);
        due(x.count(0), 6);
        x.cell(SANE);
        due(x.count(0), 6);
    }

    static void promise13_count_cellsWithDeadOnes() {
        SlipWheel x = wheel(SANE, SANE);
        x.dead(0, true);
        x.dead(1, true);
        due(x.count(0), 2);
        due(x.count(1), 0);
    }

    static void promise13_count_notDeadMuteOnesToo() {
        due(wheel(MUTE, MUTE).count(1), 2);
    }

    static void promise13_count_wordsTo60() {
        SlipWheel x = fullBook(SANE);
        x.draw(60);
        due(x.count(2), 60);
    }

    static void promise13_count_linesTo6() {
        SlipWheel x = withSixLines();
        x.line(0, 1);
        due(x.count(3), 6);
    }

    static void promise13_count_knownNoneAndAll() {
        SlipWheel x = fullBook(SANE);
        due(x.count(4), 60);
        x.forget(0);
        x.forget(59);
        due(x.count(4), 58);
        book(x, "abc");
        due(x.count(4), 0);
    }

    static void promise13_count_knownOfUndoneWordsNoMore() {
        SlipWheel x = wheel(SANE);
        add(x, "ab");
        x.undo(2);
        due(x.count(4), 0);
    }

    static void promise13_count_stuckByFollowOfNone() {
        SlipWheel x = wheel();
        x.follow(2, 0);
        due(x.count(5), 0);
        book(x, "c");
        due(x.count(5), 1);
    }

    static void promise13_count_stuckByLinesOfTheLastThatMay() {
        SlipWheel x = wheel();
        x.follow(2, set("ah"));
        book(x, "ggc");
        line(x, "h");
        due(x.count(5), 0);
        line(x, "ggca");
        due(x.count(5), 1);
    }

    static void promise13_count_stuckNotByTheFirstOrLastWordLeft() {
        SlipWheel x = wheel();
        book(x, "c");
        x.follow(2, set("a"));
        due(x.count(5), 0);
        x.follow(2, set("h"));
        due(x.count(5), 0);
    }

    static void promise13_count_stuckNotOnAnEmptyBook() {
        SlipWheel x = wheel();
        tongue(x, "-;-;-;-;-;-;-;-");
        due(x.count(5), 0);
        for (int word = 0; word < 6; word++) {
            x.line(word, 1);
        }
        due(x.count(5), 0);
    }

    static void promise13_count_stuckWhateverWeights() {
        SlipWheel x = wheel(SANE);
        onlyWords(x, 0, "");
        due(x.count(5), 0);
    }

    static void promise13_count_stuckWhateverAMadOneTakes() {
        SlipWheel x = wheel(MAD);
        x.follow(0, 0);
        book(x, "a");
        due(x.count(5), 1);
    }

    static void promise13_count_turnOfNobody() {
        SlipWheel x = wheel(SANE);
        x.dead(0, true);
        due(x.count(6), NONE);
        due(wheel().count(6), NONE);
    }

    static void promise13_count_turnOfAMuteOne() {
        SlipWheel x = wheel(SANE, MUTE);
        add(x, "a");
        due(x.count(6), 1);
    }

    static void promise13_count_turnsWithoutAWord() {
        SlipWheel x = wheel(MUTE);
        x.draw(60);
        due(x.count(7), 60);
        due(x.count(2), 0);
    }

    static void promise13_count_turnsOnAFullBook() {
        SlipWheel x = fullBook(SANE);
        due(x.count(7), 60);
        x.add(0);
        due(x.count(7), 60);
        x.draw(60);
        due(x.count(7), 120);
    }

    static void promise13_count_turnsOfAsManyCallsAsThereMayBe() {
        SlipWheel x = wheel(SANE, MUTE);
        for (int call = 0; call < 509; call++) {
            x.draw(60);
        }
        due(x.count(7), 509 * 60);
    }

    static void promise13_count_turnsStayByUndo() {
        SlipWheel x = wheel(SANE);
        add(x, "abc");
        x.undo(3);
        due(x.count(7), 3);
    }
}
