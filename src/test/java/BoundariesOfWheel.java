// The boundary cases of promises 14 to 23 (the wheel), each sentence that names one by a test of its own.
public final class BoundariesOfWheel extends Boundaries {
    public static void main(String[] args) {
        runAll(BoundariesOfWheel.class);
    }

    static SlipWheel allDead() {
        SlipWheel x = usual();
        for (int cell = 0; cell < 4; cell++) {
            x.dead(cell, true);
        }
        return x;
    }

    static SlipWheel full() {
        return fullBook(SANE, SANE);
    }

    static SlipWheel fullAndAllDead() {
        SlipWheel x = full();
        x.dead(0, true);
        x.dead(1, true);
        return x;
    }

    // Each word is followed by the next one alone, the last one by the first.
    static SlipWheel ring(int... kinds) {
        SlipWheel x = wheel(kinds);
        tongue(x, "b;c;d;e;f;g;h;a");
        return x;
    }

    // ---- 14 read

    static void promise14_read_placeBelow0() {
        refused(BAD, x -> x.read(-1, 0));
        refused(BAD, x -> x.read(LEAST, 1));
    }

    static void promise14_read_placeBehindTheLastWord() {
        refused(BAD, x -> x.read(6, 0));
        refused(BAD, x -> x.read(6, 1));
        refused(BAD, x -> x.read(MOST, 1));
    }

    static void promise14_read_placeBehindAFullBook() {
        refused(BoundariesOfWheel::full, BAD, x -> x.read(60, 0));
        refused(BoundariesOfWheel::full, BAD, x -> x.read(60, 1));
    }

    static void promise14_read_ofAnEmptyBook() {
        refused(SlipWheel::new, BAD, x -> x.read(0, 0));
        refused(SlipWheel::new, BAD, x -> x.read(0, 1));
    }

    static void promise14_read_ofAnUndoneWord() {
        SlipWheel x = wheel(SANE);
        add(x, "ab");
        x.undo(1);
        due(x.read(1, 0), BAD);
        due(x.read(1, 1), BAD);
    }

    static void promise14_read_whatBelow0() {
        refused(BAD, x -> x.read(0, -1));
        refused(BAD, x -> x.read(0, LEAST));
    }

    static void promise14_read_whatAbove1() {
        refused(BAD, x -> x.read(0, 2));
        refused(BAD, x -> x.read(0, MOST));
    }

    static void promise14_read_firstAndLastPlace() {
        SlipWheel x = wheel(SANE, SANE);
        add(x, "hbcdefg");
        due(x.read(0, 0), 7);
        due(x.read(6, 0), 6);
        due(x.read(5, 1), 1);
        due(x.read(6, 1), 0);
    }

    static void promise14_read_theSixtiethPlace() {
        SlipWheel x = full();
        due(x.read(59, 0), 0);
        due(x.read(59, 1), 1);
    }

    static void promise14_read_forgottenIsNone() {
        SlipWheel x = wheel(SANE, SANE);
        add(x, "cd");
        x.forget(0);
        due(x.read(0, 1), NONE);
        due(x.read(0, 0), 2);
        due(x.read(1, 1), 1);
    }

    static void promise14_read_ofATextIsNone() {
        SlipWheel x = wheel(SANE);
        book(x, "c");
        due(x.read(0, 1), NONE);
    }

    // ---- 15 come

    static void promise15_come_cellBelow0() {
        refused(BAD, x -> x.come(-1));
        refused(BAD, x -> x.come(LEAST));
    }

    static void promise15_come_cellThatIsNot() {
        refused(BAD, x -> x.come(4));
        refused(BAD, x -> x.come(MOST));
        refused(SlipWheel::new, BAD, x -> x.come(0));
    }

    static void promise15_come_cellBehindTheLast() {
        refused(() -> wheel(SANE, SANE, SANE, SANE, SANE, SANE), BAD, x -> x.come(6));
    }

    static void promise15_come_anyWordOnAnEmptyBook() {
        SlipWheel x = wheel(SANE, BLIND);
        tongue(x, "-;-;-;-;-;-;-;-");
        due(x.come(0), 255);
        due(x.come(1), 255);
    }

    static void promise15_come_onceAWordStandsThoseThatFollowIt() {
        SlipWheel x = wheel(SANE, BLIND);
        x.follow(0, set("ah"));
        book(x, "a");
        due(x.come(0), set("ah"));
        due(x.come(1), set("ah"));
        book(x, "ab");
        due(x.come(0), 255);
    }

    static void promise15_come_noneByFollowOfNone() {
        SlipWheel x = wheel(SANE);
        x.follow(0, 0);
        book(x, "a");
        due(x.come(0), 0);
    }

    static void promise15_come_sureIsOneAlone() {
        SlipWheel x = wheel(SANE);
        x.follow(0, set("h"));
        book(x, "a");
        due(x.come(0), set("h"));
    }

    static void promise15_come_notOfWeight0() {
        SlipWheel x = wheel(SANE, MAD, BLIND);
        for (int cell = 0; cell < 3; cell++) {
            x.weight(cell, 0, 0);
            x.weight(cell, 7, 0);
            due(x.come(cell), set("bcdefg"));
        }
    }

    static void promise15_come_noneByWeightsOf0() {
        SlipWheel x = wheel(SANE, MAD, BLIND);
        for (int cell = 0; cell < 3; cell++) {
            onlyWords(x, cell, "");
            due(x.come(cell), 0);
        }
    }

    static void promise15_come_ofAMuteOneNone() {
        due(wheel(MUTE).come(0), 0);
    }

    static void promise15_come_ofAMadOneAsIfAllMight() {
        SlipWheel x = wheel(MAD);
        x.follow(0, 0);
        line(x, "a");
        line(x, "ab");
        due(x.come(0), 255);
        book(x, "aaa");
        due(x.come(0), 255);
    }

    static void promise15_come_ofABlindOneByLinesOfTwoWords() {
        SlipWheel x = wheel(BLIND);
        line(x, "h");
        line(x, "ag");
        due(x.come(0), set("abcdefg"));
        book(x, "a");
        due(x.come(0), set("abcdef"));
    }

    static void promise15_come_ofABlindOneNotByLinesOfThreeWords() {
        SlipWheel x = wheel(BLIND);
        line(x, "aaf");
        line(x, "aaae");
        book(x, "aaa");
        due(x.come(0), 255);
    }

    static void promise15_come_ofASaneOneByLinesOfFourWords() {
        SlipWheel x = wheel(SANE);
        line(x, "aaae");
        book(x, "aa");
        due(x.come(0), 255);
        book(x, "aaa");
        due(x.come(0), 255 & ~set("e"));
        book(x, "baaa");
        due(x.come(0), 255 & ~set("e"));
        book(x, "aaba");
        due(x.come(0), 255);
    }

    static void promise15_come_notByALineFurtherAhead() {
        SlipWheel x = wheel(SANE);
        line(x, "ab");
        book(x, "abc");
        due(x.come(0), 255);
    }

    static void promise15_come_lineOfWordsAThatBeginsAheadOfTheBook() {
        SlipWheel x = wheel(SANE);
        line(x, "aaa");
        due(x.come(0), 255);
        book(x, "a");
        due(x.come(0), 255);
    }

    static void promise15_come_ofADeadOneToo() {
        SlipWheel x = wheel(SANE);
        x.dead(0, true);
        due(x.come(0), 255);
    }

    static void promise15_come_ofOneWhoseTurnItIsNot() {
        due(wheel(MUTE, SANE).come(1), 255);
    }

    // ---- 16 odds

    static void promise16_odds_cellBelow0() {
        refused(BAD, x -> x.odds(-1, 0, 0));
        refused(BAD, x -> x.odds(LEAST, 0, 0));
    }

    static void promise16_odds_cellThatIsNot() {
        refused(BAD, x -> x.odds(4, 0, 0));
        refused(BAD, x -> x.odds(MOST, 0, 0));
        refused(SlipWheel::new, BAD, x -> x.odds(0, 0, 0));
    }

    static void promise16_odds_wordBelow0() {
        refused(BAD, x -> x.odds(0, -1, 0));
        refused(BAD, x -> x.odds(0, LEAST, 0));
    }

    static void promise16_odds_wordAbove7() {
        refused(BAD, x -> x.odds(0, 8, 0));
        refused(BAD, x -> x.odds(0, 32, 0));
        refused(BAD, x -> x.odds(0, MOST, 0));
    }

    static void promise16_odds_partBelow0() {
        refused(BAD, x -> x.odds(0, 0, -1));
        refused(BAD, x -> x.odds(0, 0, LEAST));
    }

    static void promise16_odds_partAbove1() {
        refused(BAD, x -> x.odds(0, 0, 2));
        refused(BAD, x -> x.odds(0, 0, MOST));
    }

    static void promise16_odds_badAheadOfNone() {
        refused(() -> wheel(MUTE), BAD, x -> x.odds(0, 0, 2));
        refused(() -> wheel(MUTE), BAD, x -> x.odds(0, 8, 0));
    }

    static void promise16_odds_noneByWeight0() {
        SlipWheel x = wheel(SANE);
        x.weight(0, 3, 0);
        due(x.odds(0, 3, 0), NONE);
        due(x.odds(0, 3, 1), NONE);
    }

    static void promise16_odds_noneByFollow() {
        SlipWheel x = wheel(SANE, MAD);
        x.follow(0, 255 & ~set("d"));
        book(x, "a");
        due(x.odds(0, 3, 0), NONE);
        due(x.odds(1, 3, 0), 1);
        due(x.odds(1, 3, 1), 8);
    }

    static void promise16_odds_noneByALine() {
        SlipWheel x = wheel(SANE);
        line(x, "d");
        due(x.odds(0, 3, 0), NONE);
        due(x.odds(0, 2, 1), 7);
    }

    static void promise16_odds_noneOfAMuteOne() {
        due(wheel(MUTE).odds(0, 0, 0), NONE);
        due(wheel(MUTE).odds(0, 0, 1), NONE);
    }

    static void promise16_odds_noneWhereNoneCanCome() {
        SlipWheel x = wheel(SANE);
        x.follow(0, 0);
        book(x, "a");
        for (int word = 0; word < 8; word++) {
            due(x.odds(0, word, 1), NONE);
        }
    }

    static void promise16_odds_sureIsOneByOne() {
        SlipWheel x = wheel(SANE);
        onlyWords(x, 0, "h");
        x.weight(0, 7, 9);
        due(x.odds(0, 7, 0), 1);
        due(x.odds(0, 7, 1), 1);
    }

    static void promise16_odds_allWeightsOf9() {
        SlipWheel x = wheel(SANE);
        for (int word = 0; word < 8; word++) {
            x.weight(0, word, 9);
        }
        due(x.odds(0, 0, 0), 1);
        due(x.odds(0, 7, 1), 8);
    }

    static void promise16_odds_leastAgainstMost() {
        SlipWheel x = wheel(SANE);
        for (int word = 1; word < 8; word++) {
            x.weight(0, word, 9);
        }
        due(x.odds(0, 0, 0), 1);
        due(x.odds(0, 0, 1), 64);
        due(x.odds(0, 7, 0), 9);
        due(x.odds(0, 7, 1), 64);
    }

    static void promise16_odds_inLowestTerms() {
        SlipWheel x = wheel(SANE);
        onlyWords(x, 0, "ab");
        x.weight(0, 0, 6);
        x.weight(0, 1, 9);
        due(x.odds(0, 0, 0), 2);
        due(x.odds(0, 0, 1), 5);
        x.weight(0, 0, 8);
        x.weight(0, 1, 4);
        due(x.odds(0, 0, 0), 2);
        due(x.odds(0, 1, 1), 3);
    }

    static void promise16_odds_byThoseThatCanComeAlone() {
        SlipWheel x = wheel(SANE);
        x.weight(0, 7, 9);
        x.follow(0, set("ab"));
        book(x, "a");
        due(x.odds(0, 0, 1), 2);
    }

    // ---- 17 add

    static void promise17_add_wordBelow0() {
        refused(BAD, x -> x.add(-1));
        refused(BAD, x -> x.add(LEAST));
    }

    static void promise17_add_wordAbove7() {
        refused(BAD, x -> x.add(8));
        refused(BAD, x -> x.add(32));
        refused(BAD, x -> x.add(MOST));
    }

    static void promise17_add_firstAndLastWord() {
        SlipWheel x = wheel(SANE);
        due(x.add(0), 0);
        due(x.add(7), 0);
        due(pages(x), "ah");
    }

    static void promise17_add_noneWithoutACell() {
        refused(SlipWheel::new, NONE, x -> x.add(0));
    }

    static void promise17_add_noneIfAllAreDead() {
        refused(BoundariesOfWheel::allDead, NONE, x -> x.add(0));
    }

    static void promise17_add_badAheadOfNone() {
        refused(SlipWheel::new, BAD, x -> x.add(8));
        refused(BoundariesOfWheel::allDead, BAD, x -> x.add(-1));
    }

    static void promise17_add_theSixtiethWord() {
        SlipWheel x = wheel(SANE);
        for (int place = 0; place < 60; place++) {
            due(x.add(place % 8), 0);
        }
        due(x.count(2), 60);
        due(x.read(59, 0), 59 % 8);
    }

    static void promise17_add_onAFullBook() {
        refused(BoundariesOfWheel::full, FULL, x -> x.add(0));
    }

    static void promise17_add_badAheadOfFull() {
        refused(BoundariesOfWheel::full, BAD, x -> x.add(8));
    }

    static void promise17_add_noneAheadOfFull() {
        refused(BoundariesOfWheel::fullAndAllDead, NONE, x -> x.add(0));
    }

    static void promise17_add_fullAheadOfNot() {
        refused(() -> {
            SlipWheel x = full();
            x.follow(0, 0);
            return x;
        }, FULL, x -> x.add(0));
    }

    static void promise17_add_fullNoMoreBehindUndo() {
        SlipWheel x = full();
        x.undo(1);
        due(x.add(5), 0);
        due(x.add(5), FULL);
    }

    static void promise17_add_notOfAMuteOne() {
        refused(() -> wheel(MUTE, SANE), NOT, x -> x.add(0));
    }

    static void promise17_add_notByFollow() {
        refused(() -> {
            SlipWheel x = wheel(SANE);
            x.follow(0, 255 & ~set("c"));
            book(x, "a");
            return x;
        }, NOT, x -> x.add(2));
    }

    static void promise17_add_notByALine() {
        refused(() -> {
            SlipWheel x = wheel(SANE);
            line(x, "abcd");
            book(x, "abc");
            return x;
        }, NOT, x -> x.add(3));
    }

    static void promise17_add_notByWeight0() {
        refused(() -> {
            SlipWheel x = wheel(MAD);
            x.weight(0, 3, 0);
            return x;
        }, NOT, x -> x.add(3));
    }

    static void promise17_add_ofTheCellWhoseTurnItIsAlone() {
        SlipWheel x = wheel(SANE, MAD);
        x.follow(0, 0);
        due(x.add(0), 0);
        due(x.add(0), 1);
        due(x.add(0), NOT);
    }

    static void promise17_add_aMadOnePastALine() {
        SlipWheel x = wheel(MAD);
        line(x, "aa");
        due(x.add(0), 0);
        due(x.add(0), 0);
        due(pages(x), "aa");
    }

    static void promise17_add_aBlindOnePastALineOfThree() {
        SlipWheel x = wheel(BLIND);
        line(x, "aaa");
        line(x, "bb");
        add(x, "aaab");
        due(x.add(1), NOT);
    }

    static void promise17_add_anyWordOnAnEmptyBook() {
        SlipWheel x = wheel(SANE);
        tongue(x, "-;-;-;-;-;-;-;-");
        due(x.add(7), 0);
        due(x.add(7), NOT);
    }

    static void promise17_add_roundTheWheel() {
        SlipWheel x = wheel(SANE, SANE, SANE, SANE, SANE, SANE);
        for (int turn = 0; turn < 13; turn++) {
            due(x.add(0), turn % 6);
        }
    }

    static void promise17_add_isATurn() {
        SlipWheel x = wheel(SANE, SANE);
        x.add(0);
        due(x.count(7), 1);
        due(x.count(6), 1);
    }

    static void promise17_add_leavesTheDraw() {
        SlipWheel x = wheel(SANE);
        x.add(0);
        due(x.seed(1), 1);
    }

    // ---- 18 draw

    static void promise18_draw_noTurn() {
        refused(BAD, x -> x.draw(0));
    }

    static void promise18_draw_turnsBelow0() {
        refused(BAD, x -> x.draw(-1));
        refused(BAD, x -> x.draw(LEAST));
    }

    static void promise18_draw_moreThan60Turns() {
        refused(BAD, x -> x.draw(61));
        refused(BAD, x -> x.draw(MOST));
    }

    static void promise18_draw_oneTurn() {
        SlipWheel x = wheel(SANE, SANE);
        due(x.draw(1), 1);
        due(x.count(7), 1);
    }

    static void promise18_draw_60Turns() {
        SlipWheel x = wheel(SANE);
        due(x.draw(60), 60);
        due(x.count(2), 60);
        due(x.count(7), 60);
    }

    static void promise18_draw_noneWithoutACell() {
        refused(SlipWheel::new, NONE, x -> x.draw(1));
    }

    static void promise18_draw_noneIfAllAreDead() {
        refused(BoundariesOfWheel::allDead, NONE, x -> x.draw(60));
    }

    static void promise18_draw_badAheadOfNone() {
        refused(SlipWheel::new, BAD, x -> x.draw(0));
        refused(BoundariesOfWheel::allDead, BAD, x -> x.draw(61));
    }

    static void promise18_draw_noneOnAFullBook() {
        SlipWheel x = full();
        due(x.draw(3), 0);
        due(x.count(2), 60);
        due(x.count(6), 1);
    }

    static void promise18_draw_noneOnAFullBookLeavesTheDraw() {
        SlipWheel x = full();
        x.draw(3);
        due(x.seed(1), 1);
    }

    static void promise18_draw_untilTheBookIsFull() {
        SlipWheel x = full();
        x.undo(2);
        due(x.draw(5), 2);
        due(x.count(7), 65);
    }

    static void promise18_draw_noneIfNoneCanCome() {
        SlipWheel x = wheel(SANE, SANE, SANE);
        x.follow(0, 0);
        book(x, "a");
        due(x.draw(2), 0);
        due(x.count(6), 2);
        due(x.count(7), 2);
        due(x.seed(1), 1);
    }

    static void promise18_draw_noneOfMuteOnes() {
        SlipWheel x = wheel(MUTE, MUTE);
        due(x.draw(60), 0);
        due(x.count(7), 60);
        due(x.seed(1), 1);
    }

    static void promise18_draw_aSureWordIsDrawnToo() {
        SlipWheel x = wheel(SANE);
        onlyWords(x, 0, "h");
        due(x.draw(1), 1);
        due(pages(x), "h");
        due(x.seed(1), 1103527590);
    }

    // The draw becomes 12345 times its seed and so on; by the weights that can come it is told which word falls.
    static String drawnBy(int seed, int... weights) {
        SlipWheel x = wheel(SANE);
        for (int word = 0; word < 8; word++) {
            x.weight(0, word, word < weights.length ? weights[word] : 0);
        }
        x.seed(seed);
        x.draw(1);
        return pages(x);
    }

    static void promise18_draw_remainderOf0IsTheFirst() {
        // 12345 by 65536 is 0.
        due(drawnBy(0, 1, 1, 1, 1, 1, 1, 1, 1), "a");
        due(drawnBy(0, 9, 9, 9), "a");
    }

    static void promise18_draw_wordsOfWeight0AreNotCounted() {
        due(drawnBy(0, 0, 0, 1, 1), "c");
        // 1103527590 by 65536 is 16838: by 4 the remainder is 2.
        due(drawnBy(1, 2, 0, 0, 2), "d");
    }

    static void promise18_draw_lastOfTheWeightsOfOneWord() {
        // 16838 by 3 leaves 2: the last one of three weights, or the one weight behind two.
        due(drawnBy(1, 3), "a");
        due(drawnBy(1, 1, 2), "b");
        due(drawnBy(1, 2, 1), "b");
        due(drawnBy(1, 2, 0, 0, 0, 0, 0, 0, 1), "h");
    }

    static void promise18_draw_remainderByAllThatCanCome() {
        // 16838 by 72 leaves 62: seven weights of 9 are ahead of 63.
        due(drawnBy(1, 9, 9, 9, 9, 9, 9, 9, 9), "g");
    }

    static void promise18_draw_staysWithin31Bits() {
        SlipWheel x = wheel(SANE);
        x.seed(MOST);
        x.draw(1);
        due(x.seed(1), (int) ((MOST * 1103515245L + 12345) & 0x7fffffffL));
        x.seed(2);
        x.draw(1);
        due(x.seed(1), (int) ((2 * 1103515245L + 12345) & 0x7fffffffL));
    }

    static void promise18_draw_goesOnFromItself() {
        SlipWheel x = wheel(SANE);
        long lot = 1;
        StringBuilder words = new StringBuilder();
        for (int i = 0; i < 60; i++) {
            lot = (lot * 1103515245L + 12345) % (1L << 31);
            words.append((char) ('a' + lot / 65536 % 8));
        }
        x.draw(59);
        x.draw(1);
        due(pages(x), words.toString());
        due(x.seed(1), (int) lot);
    }

    static void promise18_draw_writersAreKept() {
        SlipWheel x = wheel(SANE, MUTE, SANE);
        due(x.draw(4), 3);
        due(x.read(0, 1), 0);
        due(x.read(1, 1), 2);
        due(x.read(2, 1), 0);
    }

    static void promise18_draw_backwardsRound() {
        SlipWheel x = wheel(SANE, SANE, SANE);
        x.turn(true);
        x.draw(4);
        due(x.read(1, 1), 2);
        due(x.read(2, 1), 1);
        due(x.read(3, 1), 0);
    }

    static void promise18_draw_ofAMadOnePastTheTongue() {
        SlipWheel x = wheel(MAD);
        tongue(x, "-;-;-;-;-;-;-;-");
        due(x.draw(3), 3);
        due(pages(x).length(), 3);
    }

    // ---- 19 seed

    static void promise19_seed_below0() {
        refused(BAD, x -> x.seed(-1));
        refused(BAD, x -> x.seed(LEAST));
    }

    static void promise19_seed_of0() {
        SlipWheel x = wheel();
        due(x.seed(0), 1);
        due(x.seed(5), 0);
    }

    static void promise19_seed_of31Bits() {
        SlipWheel x = wheel();
        x.seed(MOST);
        due(x.seed(0), MOST);
    }

    static void promise19_seed_answersWhatItWas() {
        SlipWheel x = wheel();
        x.seed(77);
        due(x.seed(77), 77);
        due(x.seed(78), 77);
    }

    static void promise19_seed_isWhatIsDrawnBy() {
        SlipWheel x = wheel(SANE);
        x.draw(5);
        String first = pages(x);
        x.undo(5);
        x.seed(1);
        x.draw(5);
        due(pages(x), first);
    }

    // ---- 20 undo

    static void promise20_undo_noWord() {
        refused(BAD, x -> x.undo(0));
    }

    static void promise20_undo_wordsBelow0() {
        refused(BAD, x -> x.undo(-1));
        refused(BAD, x -> x.undo(LEAST));
    }

    static void promise20_undo_moreThan60Words() {
        refused(BAD, x -> x.undo(61));
        refused(BAD, x -> x.undo(MOST));
        refused(BoundariesOfWheel::full, BAD, x -> x.undo(61));
    }

    static void promise20_undo_ofAnEmptyBook() {
        refused(() -> wheel(SANE), NOT, x -> x.undo(1));
        refused(SlipWheel::new, NOT, x -> x.undo(60));
    }

    static void promise20_undo_oneMoreThanThereAre() {
        refused(NOT, x -> x.undo(7));
    }

    static void promise20_undo_60Of59() {
        SlipWheel x = full();
        x.undo(1);
        due(x.undo(60), NOT);
        due(x.count(2), 59);
    }

    static void promise20_undo_badAheadOfNot() {
        refused(SlipWheel::new, BAD, x -> x.undo(0));
        refused(SlipWheel::new, BAD, x -> x.undo(61));
    }

    static void promise20_undo_allThatThereAre() {
        SlipWheel x = usual();
        due(x.undo(6), 0);
        due(x.count(2), 0);
    }

    static void promise20_undo_all60() {
        SlipWheel x = full();
        due(x.undo(60), 0);
    }

    static void promise20_undo_theLastOne() {
        SlipWheel x = usual();
        due(x.undo(1), 5);
        due(pages(x), "abcde");
    }

    static void promise20_undo_theTurnStays() {
        SlipWheel x = wheel(SANE, SANE, SANE);
        add(x, "ab");
        x.undo(2);
        due(x.count(6), 2);
        due(x.add(0), 2);
    }

    static void promise20_undo_theSlipIsShorterThen() {
        SlipWheel x = wheel(SANE);
        x.follow(1, 0);
        add(x, "ab");
        due(x.come(0), 0);
        x.undo(1);
        due(x.come(0), 255);
    }

    static void promise20_undo_theDrawStays() {
        SlipWheel x = wheel(SANE);
        x.draw(1);
        x.undo(1);
        due(x.seed(1), 1103527590);
    }

    // ---- 21 reach

    static void promise21_reach_ofNoWord() {
        refused(BAD, x -> x.reach(0, 0));
        refused(BAD, x -> x.reach(0, -1));
        refused(BAD, x -> x.reach(0, LEAST));
    }

    static void promise21_reach_ofFourWords() {
        refused(BAD, x -> x.reach(0, 4));
        refused(BAD, x -> x.reach(0, MOST));
    }

    static void promise21_reach_wordsBelow0() {
        for (int n = 1; n <= 3; n++) {
            int length = n;
            refused(BAD, x -> x.reach(-1, length));
            refused(BAD, x -> x.reach(LEAST, length));
        }
    }

    static void promise21_reach_wordsOfMoreDigits() {
        refused(BAD, x -> x.reach(8, 1));
        refused(BAD, x -> x.reach(64, 2));
        refused(BAD, x -> x.reach(512, 3));
        refused(BAD, x -> x.reach(MOST, 3));
    }

    static void promise21_reach_noneWithoutACell() {
        refused(SlipWheel::new, NONE, x -> x.reach(0, 1));
    }

    static void promise21_reach_noneIfAllAreDead() {
        refused(BoundariesOfWheel::allDead, NONE, x -> x.reach(0, 1));
    }

    static void promise21_reach_badAheadOfNone() {
        refused(SlipWheel::new, BAD, x -> x.reach(8, 1));
        refused(BoundariesOfWheel::allDead, BAD, x -> x.reach(0, 0));
    }

    static void promise21_reach_noneOfARowThatStandsWithoutATurn() {
        SlipWheel x = wheel();
        book(x, "a");
        due(x.reach(0, 1), NONE);
    }

    static void promise21_reach_0OfARowThatStands() {
        SlipWheel x = wheel(SANE);
        book(x, "dabc");
        due(x.reach(row("c"), 1), 0);
        due(x.reach(row("bc"), 2), 0);
        due(x.reach(row("abc"), 3), 0);
    }

    static void promise21_reach_1OfARowThatStandsButOne() {
        SlipWheel x = wheel(SANE);
        book(x, "ab");
        due(x.reach(row("abc"), 3), 1);
        due(x.reach(row("bb"), 2), 1);
    }

    static void promise21_reach_rowLongerThanTheBook() {
        SlipWheel x = wheel(SANE);
        due(x.reach(row("a"), 1), 1);
        due(x.reach(row("aa"), 2), 2);
        due(x.reach(row("aaa"), 3), 3);
        add(x, "a");
        due(x.reach(row("aa"), 2), 1);
        due(x.reach(row("aaa"), 3), 2);
    }

    static void promise21_reach_firstAndLastWord() {
        SlipWheel x = ring(SANE);
        book(x, "h");
        due(x.reach(row("a"), 1), 1);
        due(x.reach(row("h"), 1), 0);
        due(x.reach(row("hab"), 3), 2);
        due(x.reach(row("ah"), 2), NONE);
    }

    static void promise21_reach_in30() {
        SlipWheel x = ring(MUTE, MUTE, MUTE, MUTE, MUTE, SANE);
        book(x, "a");
        due(x.reach(row("f"), 1), 30);
        due(x.reach(row("def"), 3), 30);
    }

    static void promise21_reach_noneIn31() {
        SlipWheel x = ring(SANE, MUTE, MUTE, MUTE, MUTE, MUTE);
        book(x, "a");
        due(x.reach(row("f"), 1), 25);
        due(x.reach(row("g"), 1), NONE);
    }

    static void promise21_reach_noneWhateverTheTurns() {
        SlipWheel x = ring(SANE);
        due(x.reach(row("ac"), 2), NONE);
        x.line(row("c"), 1);
        book(x, "a");
        due(x.reach(row("c"), 1), NONE);
    }

    static void promise21_reach_nothingJustIfNoneCan() {
        SlipWheel x = ring(SANE, MUTE);
        book(x, "a");
        due(x.reach(row("c"), 1), 3);
        // The sane one must add at its turn: the row is passed by then.
        x.dead(1, true);
        due(x.reach(row("ab"), 2), 1);
        due(x.reach(row("a"), 1), 0);
        add(x, "b");
        due(x.reach(row("a"), 1), 7);
    }

    static void promise21_reach_eachCellOnlyAtItsTurn() {
        SlipWheel x = wheel(SANE, SANE);
        onlyWords(x, 0, "b");
        onlyWords(x, 1, "c");
        book(x, "a");
        due(x.reach(row("abc"), 3), 2);
        due(x.reach(row("ac"), 2), NONE);
        due(x.reach(row("bcb"), 3), 3);
        due(x.reach(row("cc"), 2), NONE);
    }

    static void promise21_reach_amongAllBooks() {
        SlipWheel x = wheel(SANE, SANE, SANE, SANE, SANE, SANE);
        for (int cell = 0; cell < 6; cell++) {
            x.weight(cell, 7, cell == 5 ? 1 : 0);
        }
        due(x.reach(row("h"), 1), 6);
        due(x.reach(row("hgf"), 3), 8);
        due(x.reach(row("gfh"), 3), 6);
        due(x.reach(row("hh"), 2), NONE);
        for (int cell = 1; cell < 6; cell++) {
            x.dead(cell, true);
        }
        due(x.reach(row("h"), 1), NONE);
    }

    static void promise21_reach_byEachWordOneMore() {
        SlipWheel x = wheel(SANE);
        tongue(x, "ab;abc;abcd;abcde;abcdef;abcdefg;abcdefgh;abcdefgh");
        book(x, "a");
        due(x.reach(row("h"), 1), 7);
        due(x.reach(row("hhh"), 3), 9);
    }

    static void promise21_reach_onAFullBookAsIfItWereNot() {
        SlipWheel x = full();
        due(x.reach(row("bcd"), 3), 3);
        due(x.reach(row("aaa"), 3), 0);
    }

    static void promise21_reach_onAnEmptyBook() {
        SlipWheel x = ring(SANE);
        due(x.reach(row("h"), 1), 1);
        due(x.reach(row("gha"), 3), 3);
    }

    static void promise21_reach_byLinesOfFourWords() {
        SlipWheel x = wheel(SANE);
        line(x, "abcd");
        book(x, "abc");
        due(x.reach(row("d"), 1), 2);
        due(x.reach(row("bcd"), 3), 3);
        x.follow(2, set("ad"));
        x.follow(0, set("b"));
        // By a, b, b, c, d: the b ahead of it makes it another line.
        due(x.reach(row("bcd"), 3), 5);
        x.follow(1, set("c"));
        due(x.reach(row("bcd"), 3), NONE);
    }

    static void promise21_reach_roundTheWheelBackwards() {
        SlipWheel x = wheel(MUTE, SANE, MAD);
        x.follow(0, set("a"));
        book(x, "a");
        due(x.reach(row("b"), 1), 3);
        x.turn(true);
        due(x.reach(row("b"), 1), 2);
    }

    static void promise21_reach_pastDeadOnes() {
        SlipWheel x = ring(MUTE, MUTE, SANE);
        book(x, "a");
        due(x.reach(row("b"), 1), 3);
        x.dead(0, true);
        due(x.reach(row("b"), 1), 2);
        due(x.reach(row("c"), 1), 4);
    }

    static void promise21_reach_changesNothing() {
        SlipWheel x = usual();
        x.reach(row("hgh"), 3);
        due(portrait(x), portrait(usual()));
    }

    // ---- 22 end

    static void promise22_end_noneWithoutACell() {
        refused(SlipWheel::new, NONE, SlipWheel::end);
    }

    static void promise22_end_noneIfAllAreDead() {
        refused(BoundariesOfWheel::allDead, NONE, SlipWheel::end);
    }

    static void promise22_end_0IfNobodyCan() {
        SlipWheel x = wheel(SANE, BLIND);
        x.follow(0, 0);
        book(x, "a");
        due(x.end(), 0);
    }

    static void promise22_end_0OfMuteOnesAlone() {
        due(wheel(MUTE).end(), 0);
    }

    static void promise22_end_0ByWeightsOf0() {
        SlipWheel x = wheel(MAD, SANE);
        onlyWords(x, 0, "");
        due(x.end(), NONE);
        onlyWords(x, 1, "");
        due(x.end(), 0);
    }

    static void promise22_end_1OnAnEmptyBook() {
        SlipWheel x = wheel(SANE);
        x.follow(7, 0);
        due(x.end(), 1);
    }

    static void promise22_end_notIfOnlyTheCellOfTheTurnCannot() {
        SlipWheel x = wheel(SANE, MAD);
        x.follow(0, 0);
        book(x, "a");
        due(x.end(), NONE);
        x.swap(0, 1);
        due(x.end(), NONE);
    }

    static void promise22_end_deadOnesDoNotCount() {
        SlipWheel x = wheel(SANE, MAD);
        x.follow(0, 0);
        book(x, "a");
        x.dead(1, true);
        due(x.end(), 0);
    }

    static void promise22_end_blindOnesSeeLess() {
        SlipWheel x = wheel(SANE, BLIND);
        x.follow(0, set("a"));
        line(x, "aaa");
        book(x, "aa");
        due(x.end(), NONE);
        x.dead(1, true);
        due(x.end(), 0);
    }

    static SlipWheel towardsH(int... kinds) {
        SlipWheel x = wheel(kinds);
        tongue(x, "b;c;d;e;f;g;h;-");
        book(x, "a");
        return x;
    }

    static void promise22_end_in30() {
        SlipWheel x = towardsH(MUTE, MUTE, MUTE, MUTE, MUTE, SANE);
        x.follow(5, 0);
        due(x.end(), 30);
    }

    static void promise22_end_noneIn31() {
        SlipWheel x = towardsH(MUTE, MUTE, MUTE, MUTE, MUTE, SANE);
        due(x.end(), NONE);
        SlipWheel y = towardsH(SANE, MUTE, MUTE, MUTE, MUTE, MUTE);
        y.follow(6, 0);
        due(y.end(), NONE);
        y.follow(5, 0);
        due(y.end(), 25);
    }

    static void promise22_end_noneIfItCannot() {
        due(ring(SANE).end(), NONE);
        due(wheel(SANE).end(), NONE);
    }

    static void promise22_end_onAFullBookAsIfItWereNot() {
        SlipWheel x = full();
        due(x.end(), NONE);
        x.follow(4, 0);
        due(x.end(), 1);
    }

    static void promise22_end_byTheFewestTurns() {
        SlipWheel x = wheel(SANE);
        tongue(x, "bf;c;d;e;-;g;-");
        book(x, "a");
        due(x.end(), 2);
    }

    static void promise22_end_changesNothing() {
        SlipWheel x = usual();
        x.end();
        due(portrait(x), portrait(usual()));
    }

    // ---- 23 soon

    static void promise23_soon_wordBelow0() {
        refused(BAD, x -> x.soon(-1, 1));
        refused(BAD, x -> x.soon(LEAST, 1));
    }

    static void promise23_soon_wordAbove7() {
        refused(BAD, x -> x.soon(8, 1));
        refused(BAD, x -> x.soon(MOST, 1));
    }

    static void promise23_soon_noTurn() {
        refused(BAD, x -> x.soon(0, 0));
        refused(BAD, x -> x.soon(0, -1));
        refused(BAD, x -> x.soon(0, LEAST));
    }

    static void promise23_soon_sixTurns() {
        refused(BAD, x -> x.soon(0, 6));
        refused(BAD, x -> x.soon(0, MOST));
    }

    static void promise23_soon_noneWithoutACell() {
        refused(SlipWheel::new, NONE, x -> x.soon(0, 1));
    }

    static void promise23_soon_noneIfAllAreDead() {
        refused(BoundariesOfWheel::allDead, NONE, x -> x.soon(0, 5));
    }

    static void promise23_soon_badAheadOfNone() {
        refused(SlipWheel::new, BAD, x -> x.soon(0, 6));
        refused(BoundariesOfWheel::allDead, BAD, x -> x.soon(8, 1));
    }

    static void promise23_soon_within1() {
        SlipWheel x = wheel(SANE);
        due(x.soon(0, 1), 125);
        due(x.soon(7, 1), 125);
    }

    static void promise23_soon_within5() {
        SlipWheel x = ring(SANE);
        book(x, "a");
        due(x.soon(row("f"), 5), 1000);
        due(x.soon(row("f"), 4), 0);
        due(x.soon(row("g"), 5), 0);
    }

    static void promise23_soon_1000IfSure() {
        SlipWheel x = wheel(SANE);
        onlyWords(x, 0, "h");
        due(x.soon(7, 1), 1000);
        due(x.soon(7, 5), 1000);
    }

    static void promise23_soon_0IfItCannot() {
        SlipWheel x = wheel(SANE);
        x.weight(0, 3, 0);
        due(x.soon(3, 5), 0);
    }

    static void promise23_soon_ofTheToldWordAtOnceWhateverIsBehind() {
        SlipWheel x = wheel(SANE);
        onlyWords(x, 0, "ab");
        x.follow(0, 0);
        x.follow(1, 0);
        due(x.soon(0, 5), 500);
    }

    static void promise23_soon_cutAtEachTurn() {
        SlipWheel x = wheel(SANE);
        onlyWords(x, 0, "abc");
        due(x.soon(0, 1), 333);
        // 1000 and two times 333 by 3 is 555 and a third; 1000 and two times 555 by 3 is 703 and a third.
        due(x.soon(0, 2), 555);
        due(x.soon(0, 3), 703);
        // 802 of 2406, 867 (and two thirds) of 2604.
        due(x.soon(0, 4), 802);
        due(x.soon(0, 5), 868);
    }

    static void promise23_soon_byWeights() {
        SlipWheel x = wheel(SANE);
        onlyWords(x, 0, "ab");
        x.weight(0, 0, 9);
        due(x.soon(0, 1), 900);
        due(x.soon(1, 1), 100);
        due(x.soon(1, 2), 190);
    }

    static void promise23_soon_ifNoneCanTheNextOnesWithinOneLess() {
        SlipWheel x = wheel(MUTE, SANE);
        due(x.soon(0, 1), 0);
        due(x.soon(0, 2), 125);
        due(x.soon(0, 3), 125);
        due(x.soon(0, 4), 234);
    }

    static void promise23_soon_roundTheWheelAndPastDeadOnes() {
        SlipWheel x = wheel(MUTE, MUTE, SANE);
        x.draw(2);
        x.dead(2, true);
        due(x.soon(0, 5), 0);
        x.dead(2, false);
        x.dead(1, true);
        due(x.soon(0, 1), 125);
        due(x.soon(0, 3), 234);
        x.turn(true);
        due(x.soon(0, 2), 125);
    }

    static void promise23_soon_backwards() {
        SlipWheel x = wheel(MUTE, MUTE, SANE);
        due(x.soon(0, 2), 0);
        x.turn(true);
        due(x.soon(0, 2), 125);
    }

    static void promise23_soon_onAFullBookAsIfItWereNot() {
        SlipWheel x = full();
        due(x.soon(3, 1), 125);
    }

    static void promise23_soon_onAnEmptyBook() {
        SlipWheel x = wheel(SANE);
        tongue(x, "-;-;-;-;-;-;-;-");
        due(x.soon(7, 1), 125);
        due(x.soon(7, 5), 125);
    }

    static void promise23_soon_changesNothing() {
        SlipWheel x = usual();
        x.soon(7, 5);
        due(portrait(x), portrait(usual()));
    }
}
