// The boundary cases of promises 24 to 30 (who, where, what if), each sentence that names one by a test of its own.
public final class BoundariesOfWriters extends Boundaries {
    public static void main(String[] args) {
        runAll(BoundariesOfWriters.class);
    }

    static SlipWheel full() {
        return fullBook(SANE, SANE);
    }

    // ---- 24 forget

    static void promise24_forget_placeBelow0() {
        refused(BAD, x -> x.forget(-1));
        refused(BAD, x -> x.forget(LEAST));
    }

    static void promise24_forget_placeBehindTheLastWord() {
        refused(BAD, x -> x.forget(6));
        refused(BAD, x -> x.forget(MOST));
    }

    static void promise24_forget_placeBehindAFullBook() {
        refused(BoundariesOfWriters::full, BAD, x -> x.forget(60));
    }

    static void promise24_forget_ofAnEmptyBook() {
        refused(() -> wheel(SANE), BAD, x -> x.forget(0));
    }

    static void promise24_forget_placeOfAnUndoneWord() {
        SlipWheel x = wheel(SANE);
        add(x, "ab");
        x.undo(1);
        due(x.forget(1), BAD);
    }

    static void promise24_forget_whatIsForgotten() {
        refused(NOT, x -> x.forget(1));
    }

    static void promise24_forget_whatATextTold() {
        refused(() -> {
            SlipWheel x = wheel(SANE);
            book(x, "ab");
            return x;
        }, NOT, x -> x.forget(1));
    }

    static void promise24_forget_firstPlace() {
        SlipWheel x = wheel(SANE, SANE);
        add(x, "ab");
        due(x.forget(0), 0);
        due(x.read(0, 1), NONE);
        due(x.read(1, 1), 1);
    }

    static void promise24_forget_theSixtiethPlace() {
        SlipWheel x = full();
        due(x.forget(59), 1);
        due(x.read(59, 1), NONE);
        due(x.read(58, 1), 0);
        due(x.forget(59), NOT);
    }

    static void promise24_forget_theWordStays() {
        SlipWheel x = usual();
        x.forget(5);
        due(pages(x), "abcdef");
    }

    static void promise24_forget_aWordAddedThereAnewIsKnown() {
        SlipWheel x = wheel(SANE);
        add(x, "ab");
        x.forget(1);
        x.undo(1);
        add(x, "c");
        due(x.read(1, 1), 0);
    }

    // ---- 25 habit

    static void promise25_habit_cellBelow0() {
        refused(BAD, x -> x.habit(-1, 0));
        refused(BAD, x -> x.habit(-4, 1));
        refused(BAD, x -> x.habit(LEAST, 0));
    }

    static void promise25_habit_cellThatIsNot() {
        refused(BAD, x -> x.habit(4, 0));
        refused(BAD, x -> x.habit(MOST, 0));
        refused(SlipWheel::new, BAD, x -> x.habit(0, 0));
    }

    static void promise25_habit_wordBelow0() {
        refused(BAD, x -> x.habit(0, -1));
        refused(BAD, x -> x.habit(0, LEAST));
    }

    static void promise25_habit_wordAbove7() {
        refused(BAD, x -> x.habit(0, 8));
        refused(BAD, x -> x.habit(0, MOST));
    }

    static void promise25_habit_ofAnEmptyBook() {
        SlipWheel x = wheel(SANE);
        for (int word = 0; word < 8; word++) {
            due(x.habit(0, word), 0);
        }
    }

    static void promise25_habit_ofAFullBook() {
        SlipWheel x = fullBook(SANE);
        due(x.habit(0, 0), 60);
        due(x.habit(0, 1), 0);
    }

    static void promise25_habit_ofEachCell() {
        SlipWheel x = full();
        due(x.habit(0, 0), 30);
        due(x.habit(1, 0), 30);
    }

    static void promise25_habit_firstAndLastPlaceCount() {
        SlipWheel x = wheel(SANE);
        add(x, "hbh");
        due(x.habit(0, 7), 2);
        due(x.habit(0, 1), 1);
    }

    static void promise25_habit_notOfForgottenOnes() {
        SlipWheel x = wheel(SANE);
        add(x, "hbh");
        x.forget(2);
        due(x.habit(0, 7), 1);
        x.forget(0);
        due(x.habit(0, 7), 0);
    }

    static void promise25_habit_notOfATextsWords() {
        SlipWheel x = wheel(SANE);
        add(x, "hhh");
        book(x, "hhh");
        due(x.habit(0, 7), 0);
    }

    static void promise25_habit_notOfUndoneWords() {
        SlipWheel x = wheel(SANE);
        add(x, "hhh");
        x.undo(2);
        due(x.habit(0, 7), 1);
    }

    static void promise25_habit_ofADeadOneToo() {
        SlipWheel x = wheel(SANE);
        add(x, "hh");
        x.dead(0, true);
        due(x.habit(0, 7), 2);
    }

    static void promise25_habit_ofTheCellNotTheSeat() {
        SlipWheel x = wheel(SANE, SANE);
        add(x, "hh");
        x.swap(0, 1);
        add(x, "h");
        due(x.habit(1, 7), 2);
        due(x.habit(0, 7), 1);
    }

    // ---- 26 guess

    static void promise26_guess_placeBelow0() {
        refused(BAD, x -> x.guess(-1));
        refused(BAD, x -> x.guess(LEAST));
    }

    static void promise26_guess_placeBehindTheLastWord() {
        refused(BAD, x -> x.guess(6));
        refused(BAD, x -> x.guess(MOST));
    }

    static void promise26_guess_placeBehindAFullBook() {
        refused(BoundariesOfWriters::full, BAD, x -> x.guess(60));
    }

    static void promise26_guess_ofAnEmptyBook() {
        refused(SlipWheel::new, BAD, x -> x.guess(0));
        refused(() -> wheel(MUTE), BAD, x -> x.guess(0));
    }

    static void promise26_guess_ofAKnownOne() {
        refused(NOT, x -> x.guess(0));
        refused(NOT, x -> x.guess(5));
        refused(BoundariesOfWriters::full, NOT, x -> x.guess(59));
    }

    static void promise26_guess_noneWithoutACell() {
        refused(() -> {
            SlipWheel x = wheel();
            book(x, "a");
            return x;
        }, NONE, x -> x.guess(0));
    }

    static void promise26_guess_noneIfAllAreMute() {
        refused(() -> {
            SlipWheel x = wheel(MUTE, MUTE);
            book(x, "a");
            return x;
        }, NONE, x -> x.guess(0));
    }

    static void promise26_guess_badAheadOfNone() {
        refused(() -> {
            SlipWheel x = wheel(MUTE);
            book(x, "a");
            return x;
        }, BAD, x -> x.guess(1));
    }

    static void promise26_guess_theOnlyOneNotMute() {
        SlipWheel x = wheel(MUTE, MUTE, MUTE, MUTE, MUTE, BLIND);
        book(x, "a");
        due(x.guess(0), 5);
    }

    static void promise26_guess_withoutHabitsTheFirst() {
        SlipWheel x = wheel(SANE, MAD, BLIND);
        book(x, "a");
        due(x.guess(0), 0);
    }

    static void promise26_guess_theFirstNotMute() {
        SlipWheel x = wheel(MUTE, SANE, SANE);
        book(x, "a");
        due(x.guess(0), 1);
    }

    static void promise26_guess_theFirstByNumberNotBySeat() {
        SlipWheel x = wheel(SANE, SANE);
        x.swap(0, 1);
        book(x, "a");
        due(x.guess(0), 0);
    }

    static void promise26_guess_deadOnesToo() {
        SlipWheel x = wheel(SANE, SANE);
        x.dead(0, true);
        book(x, "a");
        due(x.guess(0), 0);
        x.dead(1, true);
        due(x.guess(0), 0);
    }

    // A book whose first word, b, is forgotten; then each cell writes its row (each row is a cell's).
    static int guessedBehind(String... rows) {
        SlipWheel x = wheel();
        for (int cell = 0; cell < rows.length; cell++) {
            x.cell(SANE);
        }
        book(x, "b");
        for (int cell = 0; cell < rows.length; cell++) {
            for (int other = 0; other < rows.length; other++) {
                x.dead(other, other != cell);
            }
            add(x, rows[cell]);
        }
        return x.guess(0);
    }

    static void promise26_guess_byMoreOfThatWord() {
        // 16 by 8 is 2; 32 by 9 is 3.
        due(guessedBehind("", "b"), 1);
    }

    static void promise26_guess_byFewerOfOtherWords() {
        // 16 by 9 is 1; 16 by 8 is 2.
        due(guessedBehind("a", ""), 1);
    }

    static void promise26_guess_byAllOtherWords() {
        for (String word : new String[] {"a", "c", "d", "e", "f", "g", "h"}) {
            due(guessedBehind(word, ""), 1);
        }
    }

    static void promise26_guess_ofLikeOnesTheFirst() {
        due(guessedBehind("bbb", "bbb"), 0);
        due(guessedBehind("a", "bb", "bb"), 1);
    }

    static void promise26_guess_alikeOnceCut() {
        // 32 by 10 and 32 by 9 are 3.
        due(guessedBehind("ba", "b"), 0);
        // 48 by 11 and 48 by 10 are 4.
        due(guessedBehind("bba", "bb"), 0);
        // 32 by 11 is 2, 32 by 10 is 3.
        due(guessedBehind("baa", "ba"), 1);
        // 32 by 11 and 16 by 8 are 2.
        due(guessedBehind("", "baa"), 0);
        due(guessedBehind("baa", ""), 0);
    }

    static void promise26_guess_downTo0() {
        // 16 by 17 is 0; 16 by 16 is 1.
        due(guessedBehind("aaaaaaaaa", "aaaaaaaa"), 1);
        due(guessedBehind("aaaaaaaaa", "aaaaaaaaaa"), 0);
    }

    static void promise26_guess_theLastPlace() {
        SlipWheel x = full();
        x.forget(59);
        // Of cell 0: 16 times 31 by 38 is 13; of cell 1: 16 times 30 by 37 is 12.
        due(x.guess(59), 0);
        x.forget(0);
        due(x.guess(59), 0);
        x.forget(2);
        // Of cell 0: 16 times 29 by 36 is 12; of cell 1: 12.
        due(x.guess(0), 0);
        x.forget(4);
        x.forget(6);
        x.forget(8);
        x.forget(10);
        // Of cell 0: 16 times 25 by 32 is 12.
        due(x.guess(10), 0);
        x.forget(12);
        // Of cell 0: 16 times 24 by 31 is 12.
        due(x.guess(12), 0);
    }

    static void promise26_guess_changesNothing() {
        SlipWheel x = usual();
        x.guess(1);
        due(portrait(x), portrait(usual()));
    }

    // ---- 27 prevented

    static void promise27_prevented_whatBelow0() {
        refused(BAD, x -> x.prevented(-1));
        refused(BAD, x -> x.prevented(LEAST));
    }

    static void promise27_prevented_whatAbove1() {
        refused(BAD, x -> x.prevented(2));
        refused(BAD, x -> x.prevented(MOST));
    }

    static void promise27_prevented_badAheadOfNone() {
        refused(SlipWheel::new, BAD, x -> x.prevented(2));
    }

    static void promise27_prevented_noneWithoutALine() {
        SlipWheel x = wheel(SANE);
        add(x, "abc");
        due(x.prevented(0), NONE);
        due(x.prevented(1), NONE);
    }

    static void promise27_prevented_noneOfAnEmptyBook() {
        SlipWheel x = wheel(SANE);
        line(x, "a");
        due(x.prevented(0), NONE);
        due(x.prevented(1), NONE);
    }

    static void promise27_prevented_noneOfALineLongerThanTheBook() {
        SlipWheel x = wheel(SANE);
        book(x, "aaa");
        line(x, "aaaa");
        due(x.prevented(0), NONE);
        book(x, "b");
        line(x, "ab");
        line(x, "aab");
        due(x.prevented(0), NONE);
    }

    static void promise27_prevented_noneOfALineNotWholeYet() {
        SlipWheel x = wheel(SANE);
        book(x, "abcabc");
        line(x, "abcd");
        due(x.prevented(0), NONE);
    }

    static void promise27_prevented_theFirstPlaceOfTheBook() {
        SlipWheel x = wheel(SANE);
        add(x, "aba");
        line(x, "a");
        due(x.prevented(0), 0);
        due(x.prevented(1), 1);
    }

    static void promise27_prevented_theFirstFourWords() {
        SlipWheel x = wheel(SANE);
        book(x, "abcd");
        line(x, "abcd");
        due(x.prevented(0), 3);
    }

    static void promise27_prevented_byEachWordOfTheFirstFour() {
        SlipWheel x = wheel(SANE);
        book(x, "hgfe");
        line(x, "agfe");
        line(x, "hafe");
        line(x, "hgae");
        line(x, "hgfa");
        due(x.prevented(0), NONE);
        line(x, "hgfe");
        due(x.prevented(0), 3);
    }

    static void promise27_prevented_byTheSixthLine() {
        SlipWheel x = wheel(SANE, SANE, SANE, SANE, SANE);
        add(x, "bcdef");
        for (int n = 0; n < 5; n++) {
            line(x, "hh");
        }
        line(x, "def");
        due(x.prevented(0), 4);
        due(x.prevented(1), 0b11100);
    }

    static void promise27_prevented_theLastPlaceOfAFullBook() {
        SlipWheel x = wheel(SANE, SANE);
        for (int place = 0; place < 59; place++) {
            x.add(0);
        }
        x.add(1);
        line(x, "aaab");
        due(x.prevented(0), 59);
        due(x.prevented(1), 0b11);
    }

    static void promise27_prevented_theFirstPlaceOfMore() {
        SlipWheel x = wheel(SANE);
        book(x, "abcbc");
        line(x, "cb");
        line(x, "bc");
        due(x.prevented(0), 2);
    }

    static void promise27_prevented_ofMoreLinesThereTheFirst() {
        SlipWheel x = wheel(SANE, SANE, SANE);
        add(x, "abc");
        line(x, "c");
        line(x, "abc");
        due(x.prevented(1), 0b100);
        SlipWheel y = wheel(SANE, SANE, SANE);
        add(y, "abc");
        line(y, "abc");
        line(y, "c");
        due(y.prevented(1), 0b111);
    }

    static void promise27_prevented_noWordAheadOfTheLine() {
        SlipWheel x = wheel(SANE, SANE, SANE, SANE, SANE);
        add(x, "abcde");
        line(x, "bcde");
        due(x.prevented(1), 0b11110);
    }

    static void promise27_prevented_noWordBehindTheLine() {
        SlipWheel x = wheel(SANE, SANE, SANE);
        add(x, "abc");
        line(x, "ab");
        due(x.prevented(1), 0b011);
    }

    static void promise27_prevented_forgottenOnesCouldNot() {
        SlipWheel x = wheel(SANE, SANE);
        add(x, "ab");
        line(x, "ab");
        x.forget(0);
        due(x.prevented(1), 0b10);
        x.forget(1);
        due(x.prevented(0), 1);
        due(x.prevented(1), 0);
    }

    static void promise27_prevented_nobodyKnown() {
        SlipWheel x = wheel(SANE);
        book(x, "ab");
        line(x, "ab");
        due(x.prevented(1), 0);
    }

    static void promise27_prevented_oneOfWhomNoOtherWordCouldCome() {
        SlipWheel x = wheel(SANE, SANE);
        add(x, "gh");
        line(x, "gh");
        onlyWords(x, 0, "g");
        due(x.prevented(1), 0b10);
        onlyWords(x, 0, "ag");
        due(x.prevented(1), 0b11);
    }

    static void promise27_prevented_aMadOneOfWhomItsWordAloneCouldCome() {
        SlipWheel x = wheel(MAD);
        add(x, "h");
        line(x, "h");
        onlyWords(x, 0, "h");
        due(x.prevented(1), 0);
        onlyWords(x, 0, "gh");
        due(x.prevented(1), 1);
    }

    static void promise27_prevented_oneOfWhomNoneCouldCome() {
        SlipWheel x = wheel(SANE, SANE);
        add(x, "ab");
        line(x, "ab");
        x.follow(0, 0);
        due(x.prevented(1), 0b01);
    }

    static void promise27_prevented_itsOwnWordNeedNotCome() {
        SlipWheel x = wheel(SANE);
        add(x, "a");
        line(x, "a");
        onlyWords(x, 0, "b");
        due(x.prevented(1), 1);
    }

    static void promise27_prevented_onePlaceOfACellIsEnough() {
        SlipWheel x = wheel(SANE);
        add(x, "ab");
        line(x, "ab");
        x.follow(0, set("b"));
        due(x.prevented(1), 1);
    }

    static void promise27_prevented_deadOnesToo() {
        SlipWheel x = wheel(SANE, SANE);
        add(x, "ab");
        line(x, "ab");
        x.dead(0, true);
        due(x.prevented(1), 0b11);
    }

    static void promise27_prevented_byItsKind() {
        SlipWheel x = wheel(MAD, SANE);
        add(x, "abcd");
        line(x, "cd");
        tongue(x, "-;-;-;-;-;-;-;-");
        due(x.prevented(1), 0b01);
    }

    static void promise27_prevented_onlyBehindTheWordsAhead() {
        SlipWheel x = wheel(SANE, SANE);
        add(x, "aab");
        line(x, "ab");
        x.follow(0, set("ab"));
        line(x, "aaa");
        // Behind a the b would end a line itself, and behind aa the a would.
        due(x.prevented(0), 2);
        due(x.prevented(1), 0);
        x.follow(0, set("abc"));
        due(x.prevented(1), 0b11);
    }

    // ---- 28 seated

    static void promise28_seated_ofNoWord() {
        refused(BAD, x -> x.seated(0, 0, -1));
        refused(BAD, x -> x.seated(0, -1, -1));
        refused(BAD, x -> x.seated(0, LEAST, -1));
    }

    static void promise28_seated_ofSevenWords() {
        refused(BAD, x -> x.seated(0, 7, -1));
        refused(BAD, x -> x.seated(0, MOST, -1));
    }

    static void promise28_seated_wordsBelow0() {
        for (int n = 1; n <= 6; n++) {
            int length = n;
            refused(BAD, x -> x.seated(-1, length, -1));
            refused(BAD, x -> x.seated(LEAST, length, -1));
        }
    }

    static void promise28_seated_wordsOfMoreDigits() {
        for (int n = 1; n <= 6; n++) {
            int length = n;
            refused(BAD, x -> x.seated(1 << 3 * length, length, -1));
            refused(BAD, x -> x.seated(MOST, length, -1));
        }
    }

    static void promise28_seated_highestWords() {
        SlipWheel x = wheel(SANE);
        for (int n = 1; n <= 6; n++) {
            due(x.seated((1 << 3 * n) - 1, n, -1), 1);
        }
    }

    static void promise28_seated_kBelowHowMany() {
        refused(BAD, x -> x.seated(0, 1, -2));
        refused(BAD, x -> x.seated(0, 1, LEAST));
    }

    static void promise28_seated_kThatHasNoCell() {
        refused(() -> wheel(SANE, SANE), BAD, x -> x.seated(0, 1, 2));
        refused(() -> wheel(SANE, SANE), BAD, x -> x.seated(0, 1, MOST));
        refused(() -> wheel(SANE, SANE, SANE, SANE, SANE, SANE), BAD, x -> x.seated(0, 1, 6));
    }

    static void promise28_seated_kThatHasNoCellBecauseOneIsDead() {
        refused(() -> {
            SlipWheel x = wheel(SANE, SANE);
            x.dead(0, true);
            return x;
        }, BAD, x -> x.seated(0, 1, 1));
    }

    static void promise28_seated_kWithoutACell() {
        refused(SlipWheel::new, BAD, x -> x.seated(0, 1, 0));
    }

    static void promise28_seated_kThatIsTheLastSeat() {
        SlipWheel x = wheel(SANE, SANE, SANE, SANE, SANE, SANE);
        for (int seat = 0; seat < 6; seat++) {
            due(x.seated(0, 1, seat), seat);
        }
    }

    static void promise28_seated_noneWithoutACell() {
        refused(SlipWheel::new, NONE, x -> x.seated(0, 1, -1));
    }

    static void promise28_seated_noneIfAllAreDead() {
        refused(() -> {
            SlipWheel x = wheel(SANE);
            x.dead(0, true);
            return x;
        }, NONE, x -> x.seated(0, 1, -1));
    }

    static void promise28_seated_byNone() {
        SlipWheel x = wheel(SANE, SANE);
        x.follow(0, 0);
        due(x.seated(row("ab"), 2, -1), NONE);
        due(x.seated(row("ab"), 2, 0), NONE);
        due(x.seated(row("ab"), 2, 1), NONE);
    }

    static void promise28_seated_badAheadOfNone() {
        SlipWheel x = wheel(SANE, SANE);
        x.follow(0, 0);
        due(x.seated(row("ab"), 2, 2), BAD);
        due(x.seated(row("ab"), 2, -2), BAD);
        due(x.seated(row("ab"), 0, 0), BAD);
    }

    static void promise28_seated_firstDigitsOf0Count() {
        SlipWheel x = wheel(SANE, SANE);
        onlyWords(x, 0, "a");
        onlyWords(x, 1, "b");
        due(x.seated(row("ab"), 2, -1), 1);
        due(x.seated(row("ab"), 2, 0), 0);
        due(x.seated(row("b"), 1, 0), 1);
    }

    static void promise28_seated_oneCellHasAllTurns() {
        SlipWheel x = wheel(SANE);
        due(x.seated(row("abcdef"), 6, -1), 1);
        due(x.seated(row("abcdef"), 6, 0), 0);
    }

    static void promise28_seated_allOrdersOfSix() {
        SlipWheel x = wheel(SANE, MAD, BLIND, SANE, MAD, BLIND);
        due(x.seated(row("abcdef"), 6, -1), 720);
    }

    static void promise28_seated_psalmLongerThanTheWheelComesRound() {
        SlipWheel x = wheel(SANE, SANE);
        onlyWords(x, 0, "ac");
        onlyWords(x, 1, "bd");
        due(x.seated(row("abcd"), 4, -1), 1);
        due(x.seated(row("abca"), 4, -1), NONE);
        due(x.seated(row("badc"), 4, 0), 1);
        due(x.seated(row("ababab"), 6, 1), 1);
    }

    static void promise28_seated_psalmShorterThanTheWheel() {
        SlipWheel x = wheel(SANE, SANE, MUTE);
        onlyWords(x, 0, "");
        due(x.seated(row("a"), 1, -1), 2);
        due(x.seated(row("a"), 1, 0), 1);
        due(x.seated(row("a"), 1, 1), 0);
        due(x.seated(row("a"), 1, 2), 2);
    }

    static void promise28_seated_psalmAsLongAsTheWheel() {
        SlipWheel x = wheel(SANE, SANE);
        onlyWords(x, 0, "b");
        due(x.seated(row("ab"), 2, -1), 1);
        due(x.seated(row("ab"), 2, 0), 1);
        due(x.seated(row("ab"), 2, 1), 0);
    }

    static void promise28_seated_firstOrderByTheFirstSeats() {
        SlipWheel x = wheel(SANE, SANE, SANE);
        onlyWords(x, 0, "c");
        due(x.seated(row("abc"), 3, -1), 2);
        due(x.seated(row("abc"), 3, 0), 1);
        due(x.seated(row("abc"), 3, 1), 2);
        due(x.seated(row("abc"), 3, 2), 0);
    }

    static void promise28_seated_firstOrderLooksAhead() {
        SlipWheel x = wheel(SANE, SANE);
        onlyWords(x, 1, "a");
        due(x.seated(row("ab"), 2, 0), 1);
        due(x.seated(row("aa"), 2, 0), 0);
    }

    static void promise28_seated_noneAddsNothing() {
        SlipWheel x = wheel(SANE, MUTE);
        due(x.seated(row("a"), 1, -1), 1);
        due(x.seated(row("aa"), 2, -1), NONE);
        due(x.seated(row("aaa"), 3, -1), NONE);
    }

    static void promise28_seated_behindTheBook() {
        SlipWheel x = wheel(SANE);
        x.follow(0, set("b"));
        due(x.seated(row("c"), 1, -1), 1);
        book(x, "a");
        due(x.seated(row("c"), 1, -1), NONE);
        due(x.seated(row("bc"), 2, -1), 1);
    }

    static void promise28_seated_linesThatBeginInTheBook() {
        SlipWheel x = wheel(SANE, BLIND);
        line(x, "abcd");
        book(x, "ab");
        due(x.seated(row("cd"), 2, -1), 1);
        due(x.seated(row("cd"), 2, 1), 1);
        book(x, "b");
        due(x.seated(row("cd"), 2, -1), 2);
    }

    static void promise28_seated_onAFullBookAsIfItWereNot() {
        due(full().seated(row("abcdef"), 6, -1), 2);
    }

    static void promise28_seated_onAnEmptyBook() {
        SlipWheel x = wheel(SANE);
        tongue(x, "-;-;-;-;-;-;-;-");
        due(x.seated(row("h"), 1, -1), 1);
        due(x.seated(row("hh"), 2, -1), NONE);
    }

    static void promise28_seated_forwardsFromSeat0WhateverTheWheelDoes() {
        SlipWheel x = wheel(SANE, SANE, SANE);
        onlyWords(x, 0, "a");
        onlyWords(x, 1, "b");
        onlyWords(x, 2, "c");
        x.turn(true);
        x.swap(0, 2);
        x.draw(2);
        due(x.seated(row("abca"), 4, -1), 1);
        due(x.seated(row("abca"), 4, 0), 0);
        due(x.seated(row("abca"), 4, 1), 1);
        due(x.seated(row("abca"), 4, 2), 2);
    }

    static void promise28_seated_deadOnesHaveNoSeat() {
        SlipWheel x = wheel(SANE, SANE, SANE);
        x.dead(0, true);
        due(x.seated(row("abc"), 3, -1), 2);
        due(x.seated(row("abc"), 3, 0), 1);
        due(x.seated(row("abc"), 3, 1), 2);
    }

    static void promise28_seated_changesNothing() {
        SlipWheel x = usual();
        x.seated(row("aaa"), 3, -1);
        x.seated(row("aaa"), 3, 0);
        due(portrait(x), portrait(usual()));
    }

    // ---- 29 image

    static void promise29_image_ofANewObject() {
        SlipWheel x = new SlipWheel();
        due(x.image(), 1);
        x.cell(SANE);
        x.draw(5);
        due(x.restore(), 1);
        due(portrait(x), portrait(imaged(new SlipWheel())));
    }

    static SlipWheel imaged(SlipWheel x) {
        x.image();
        return x;
    }

    static void promise29_image_changesNothing() {
        SlipWheel x = usual();
        x.restore();
        SlipWheel alike = usual();
        alike.restore();
        due(x.image(), 1);
        due(portrait(x), portrait(alike));
    }

    static void promise29_image_inPlaceOfTheOneBefore() {
        SlipWheel x = wheel(SANE);
        x.image();
        add(x, "ab");
        due(x.image(), 1);
        add(x, "c");
        x.restore();
        due(pages(x), "ab");
    }

    static void promise29_image_ofAFullOne() {
        SlipWheel x = fullBook(SANE, MAD, BLIND, SANE, SANE, SANE);
        for (int word = 1; word < 7; word++) {
            x.line(word, 1);
        }
        x.image();
        x.undo(60);
        x.dead(5, true);
        x.restore();
        due(x.count(0), 6);
        due(x.count(1), 6);
        due(x.count(2), 60);
        due(x.count(3), 6);
        due(x.read(59, 1), 5);
        due(x.come(5), set("ah"));
    }

    static void promise29_image_notTheSheets() {
        SlipWheel x = wheel();
        sheet(x, 0, BYTES, 1, 2);
        x.image();
        x.drop(0);
        sheet(x, 1, INTS, 5);
        x.restore();
        due(x.drop(0), NULL);
        due(x.drop(1), 1);
    }

    static void promise29_image_notTheTape() {
        SlipWheel x = wheel();
        typed(x, "ab");
        x.image();
        typed(x, "c");
        x.restore();
        due(x.type('d', 1), 4);
        x.image();
        x.book();
        x.restore();
        due(x.type('d', 1), 1);
    }

    // ---- 30 restore

    static void promise30_restore_noneWithoutAnImage() {
        refused(SlipWheel::new, NONE, SlipWheel::restore);
        SlipWheel x = wheel(SANE);
        add(x, "ab");
        due(x.restore(), NONE);
        due(pages(x), "ab");
    }

    static void promise30_restore_allIsAsItWas() {
        SlipWheel x = usual();
        x.image();
        tongue(x, "h;g;f;e;d;c;b;a");
        line(x, "f");
        x.cell(SANE);
        x.cell(MAD);
        x.weight(0, 0, 9);
        x.weight(3, 7, 9);
        x.dead(2, false);
        x.dead(0, true);
        x.swap(1, 3);
        x.turn(false);
        x.draw(20);
        x.seed(3);
        x.forget(0);
        book(x, "hhh");
        due(x.restore(), 1);
        SlipWheel alike = usual();
        alike.image();
        alike.tongue();
        alike.restore();
        due(portrait(x), portrait(alike));
    }

    static void promise30_restore_theLastOfAll() {
        SlipWheel x = wheel(SANE, SANE, SANE, SANE, SANE, SANE);
        for (int place = 0; place < 59; place++) {
            x.add(0);
        }
        x.add(6);
        x.weight(5, 7, 8);
        x.dead(5, true);
        x.follow(7, 65);
        x.image();
        x.undo(1);
        x.swap(0, 5);
        x.dead(5, false);
        x.dead(0, true);
        x.add(7);
        x.forget(59);
        x.weight(5, 7, 3);
        x.follow(7, 66);
        x.restore();
        due(x.read(59, 0), 6);
        due(x.read(59, 1), 5);
        due(x.told(5, 10), 8);
        due(x.told(5, 2), 1);
        due(x.told(5, 1), 5);
        due(x.told(0, 1), 0);
        due(x.follow(7, 0), 65);
    }

    static void promise30_restore_again() {
        SlipWheel x = wheel(SANE);
        add(x, "ab");
        x.image();
        add(x, "c");
        x.restore();
        add(x, "d");
        due(x.restore(), 1);
        due(pages(x), "ab");
    }

    static void promise30_restore_whatIsChangedThenLeavesTheImage() {
        SlipWheel x = wheel(SANE, SANE);
        x.image();
        x.restore();
        x.weight(0, 0, 7);
        x.follow(0, 3);
        x.swap(0, 1);
        x.dead(1, true);
        x.restore();
        due(x.told(0, 3), 1);
        due(x.follow(0, 0), 255);
        due(x.told(0, 1), 0);
        due(x.told(1, 2), 0);
    }

    static void promise30_restore_cellsMadeSinceAreGone() {
        SlipWheel x = wheel(SANE);
        x.image();
        x.cell(MAD);
        x.restore();
        due(x.told(1, 0), BAD);
        due(x.count(0), 1);
    }

    static void promise30_restore_aCellMadeThenIsNew() {
        SlipWheel x = wheel(SANE);
        x.image();
        x.cell(MAD);
        x.weight(1, 4, 9);
        x.dead(1, true);
        x.swap(0, 1);
        x.restore();
        due(x.cell(BLIND), 1);
        due(x.told(1, 0), BLIND);
        due(x.told(1, 1), 1);
        due(x.told(1, 2), 0);
        due(x.told(1, 7), 1);
    }

    static void promise30_restore_cellsOfThenComeBack() {
        SlipWheel x = wheel();
        x.image();
        x.cell(MAD);
        x.cell(MUTE);
        x.swap(0, 1);
        x.image();
        x.cell(SANE);
        x.restore();
        due(x.count(0), 2);
        due(x.told(1, 1), 0);
        due(x.told(1, 0), MUTE);
    }

    static void promise30_restore_linesSinceAreGone() {
        SlipWheel x = wheel(SANE);
        line(x, "a");
        x.image();
        line(x, "b");
        x.restore();
        due(x.count(3), 1);
        due(x.come(0), 255 & ~1);
        due(x.line(row("c"), 1), 1);
        due(x.come(0), 255 & ~set("ac"));
    }

    static void promise30_restore_theDrawAndTheTurns() {
        SlipWheel x = wheel(SANE, SANE, SANE);
        x.draw(4);
        x.image();
        x.draw(4);
        String first = pages(x);
        x.restore();
        due(x.count(7), 4);
        due(x.count(6), 1);
        x.draw(4);
        due(pages(x), first);
    }
}
