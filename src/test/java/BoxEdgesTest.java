/** Boxes and promises 10, 11 and 20: a test for each sentence of the document that names a boundary case. */
public final class BoxEdgesTest {
    public static void main(String[] args) {
        atMostSixBoxes();
        squaresAre1To36();
        temperIs0To100();
        justSoManySquares();
        aTemperAsGreatOrGreater();
        aBloomOf20AtMost();
        fillWithNothingToFill();
        theFirstSlabInTheRow();
        theFirstBoxByNumber();
        slabsMoveUpBehindAFill();
        aFilledBoxIsNotFilledAgain();
        allBoxesAtOnce();
        allSlabsAtOnce();
        adviseWithNothing();
        adviseOfABloomThatPolishingMends();
        adviseOnlyForMoreThanNow();
        adviseTheMostBoxes();
        adviseTheSmallestNumber();
        adviseOnlyOnePolish();
        adviseTheLastSlab();
        adviseChangesNothing();
        Calls.end();
    }

    private static void atMostSixBoxes() {
        Calls.play("Boxes: at most 6, numbered likewise; 10: throws if there are 6", """
                box 1 0 = 0
                box 1 0 = 1
                box 1 0 = 2
                box 1 0 = 3
                box 1 0 = 4
                count 3 = 5
                box 2 9 = 5
                count 3 = 6
                order 5 0 = 2
                order 5 1 = 9
                box 1 0 = throws.IllegalStateException
                order 6 0 = throws.IndexOutOfBoundsException
                # a filled box is still one of the 6
                bowl 10 = 0
                cast 0 1 1 = 0
                fill = 1
                box 1 0 = throws.IllegalStateException
                count 3 = 6
                """);
    }

    private static void squaresAre1To36() {
        Calls.play("Boxes: so many squares, 1 to 36; 10: throws if squares is not 1 to 36", """
                box 0 50 = throws.IllegalArgumentException
                box 37 50 = throws.IllegalArgumentException
                box -1 50 = throws.IllegalArgumentException
                box -2147483648 50 = throws.IllegalArgumentException
                box 2147483647 50 = throws.IllegalArgumentException
                count 3 = 0
                box 1 50 = 0
                order 0 0 = 1
                box 36 50 = 1
                order 1 0 = 36
                # so many squares as no slab has are no wrong wish
                box 35 50 = 2
                box 7 50 = 3
                """);
    }

    private static void temperIs0To100() {
        Calls.play("Boxes: a temper, 0 to 100; 10: throws if temper is not 0 to 100", """
                box 5 -1 = throws.IllegalArgumentException
                box 5 101 = throws.IllegalArgumentException
                box 5 -2147483648 = throws.IllegalArgumentException
                box 5 2147483647 = throws.IllegalArgumentException
                count 3 = 0
                box 5 0 = 0
                order 0 1 = 0
                box 5 100 = 1
                order 1 1 = 100
                """);
    }

    private static void justSoManySquares() {
        Calls.play("Boxes: a slab fits, if it has just so many squares", """
                bowl 1000 = 0
                cast 0 2 3 = 0
                box 5 0 = 0
                box 7 0 = 1
                about 0 6 = -1
                fill = 0
                box 6 0 = 2
                about 0 6 = 2
                fill = 1
                order 2 2 = 1
                # 3 columns and 2 rows are as many squares, and so are 6 and 1
                box 6 0 = 3
                box 6 0 = 4
                cast 0 3 2 = 0
                cast 0 6 1 = 1
                fill = 2
                """);
        Calls.play("Boxes: 1 square and 36 squares", """
                bowl 1000 = 0
                cast 0 1 1 = 0
                cast 0 6 6 = 1
                box 36 0 = 0
                box 1 0 = 1
                about 0 6 = 1
                about 1 6 = 0
                fill = 2
                """);
    }

    private static void aTemperAsGreatOrGreater() {
        Calls.play("Boxes: a temper as great or greater", """
                bowl 1000 = 0
                seed 0 20 = 20
                cast 0 1 1 = 0
                box 1 41 = 0
                about 0 6 = -1
                fill = 0
                box 1 40 = 1
                about 0 6 = 1
                fill = 1
                order 0 2 = 0
                order 1 2 = 1
                cast 0 1 1 = 0
                box 1 39 = 2
                fill = 1
                order 2 3 = 40
                """);
        Calls.play("Boxes: the tempers 0 and 100", """
                bowl 1000 = 0
                box 1 100 = 0
                box 1 0 = 1
                cast 0 1 1 = 0
                about 0 6 = 1
                fill = 1
                order 1 3 = 0
                seed 0 30 = 30
                seed 0 19 = 49
                cast 0 1 1 = 0
                fill = 0
                seed 0 1 = 50
                cast 0 1 1 = 1
                fill = 1
                order 0 3 = 100
                about 0 2 = 98
                """);
    }

    private static void aBloomOf20AtMost() {
        Calls.play("Boxes: a bloom of 20 at most: 20 fits", """
                bowl 100 = 0
                cast 0 1 1 = 0
                pass 24 2 = 0
                about 0 3 = 20
                box 1 0 = 0
                about 0 6 = 0
                fill = 1
                order 0 4 = 20
                """);
        Calls.play("Boxes: a bloom of 20 at most: 21 does not fit", """
                bowl 100 = 0
                seed 0 15 = 15
                cast 0 1 1 = 0
                pass 24 3 = 1
                about 0 3 = 21
                box 1 0 = 0
                about 0 6 = -1
                fill = 0
                count 2 = 1
                order 0 2 = 0
                polish 0 = 6
                about 0 6 = 0
                fill = 1
                order 0 4 = 6
                """);
    }

    private static void fillWithNothingToFill() {
        Calls.play("11: without boxes, without slabs, without both", """
                fill = 0
                box 1 0 = 0
                fill = 0
                order 0 2 = 0
                """);
        Calls.play("11: slabs without boxes", """
                bowl 100 = 0
                cast 0 1 1 = 0
                fill = 0
                count 2 = 1
                """);
    }

    private static void theFirstSlabInTheRow() {
        Calls.play("11: the first slab in the row that fits it, not the best one", """
                bowl 1000 = 0
                cast 0 2 1 = 0
                seed 0 10 = 10
                cast 0 1 1 = 1
                seed 0 10 = 20
                cast 0 1 1 = 2
                seed 0 10 = 30
                cast 0 1 1 = 3
                box 1 40 = 0
                box 1 0 = 1
                fill = 2
                order 0 3 = 40
                order 1 3 = 20
                count 2 = 2
                about 0 0 = 2
                about 1 2 = 60
                """);
    }

    private static void theFirstBoxByNumber() {
        Calls.play("11: by numbers: the box of the smaller number comes first", """
                bowl 1000 = 0
                seed 0 20 = 20
                cast 0 1 1 = 0
                box 1 10 = 0
                box 1 40 = 1
                about 0 6 = 0
                fill = 1
                order 0 2 = 1
                order 1 2 = 0
                """);
    }

    private static void slabsMoveUpBehindAFill() {
        Calls.play("11: slabs behind it move up, of the first, of one between and of the last", """
                bowl 1000 = 0
                cast 0 1 1 = 0
                cast 0 2 1 = 1
                cast 0 3 1 = 2
                cast 0 4 1 = 3
                cast 0 5 1 = 4
                box 3 0 = 0
                box 1 0 = 1
                box 5 0 = 2
                fill = 3
                count 2 = 2
                about 0 0 = 2
                about 1 0 = 4
                about 2 0 = throws.IndexOutOfBoundsException
                """);
    }

    private static void aFilledBoxIsNotFilledAgain() {
        Calls.play("11: each one that is empty", """
                bowl 1000 = 0
                seed 0 10 = 10
                cast 0 1 1 = 0
                box 1 0 = 0
                fill = 1
                seed 0 10 = 20
                cast 0 1 1 = 0
                about 0 6 = -1
                fill = 0
                count 2 = 1
                count 4 = 1
                order 0 3 = 20
                """);
    }

    private static void allBoxesAtOnce() {
        Calls.play("11: 6 boxes are filled at once, of 8 slabs", """
                bowl 1000 = 0
                cast 0 1 1 = 0
                cast 0 1 1 = 1
                cast 0 1 1 = 2
                cast 0 1 1 = 3
                cast 0 1 1 = 4
                cast 0 1 1 = 5
                cast 0 2 1 = 6
                cast 0 1 1 = 7
                box 1 0 = 0
                box 1 0 = 1
                box 1 0 = 2
                box 1 0 = 3
                box 1 0 = 4
                box 2 0 = 5
                fill = 6
                count 4 = 6
                count 2 = 2
                fill = 0
                """);
    }

    private static void allSlabsAtOnce() {
        Calls.play("11: the eighth slab is the first that fits, and the only one leaves", """
                bowl 1000 = 0
                cast 0 1 1 = 0
                cast 0 1 1 = 1
                cast 0 1 1 = 2
                cast 0 1 1 = 3
                cast 0 1 1 = 4
                cast 0 1 1 = 5
                cast 0 1 1 = 6
                cast 0 2 1 = 7
                box 2 0 = 0
                fill = 1
                count 2 = 7
                count 6 = 7
                """);
        Calls.play("11: more boxes than slabs", """
                bowl 1000 = 0
                cast 0 1 1 = 0
                cast 0 1 1 = 1
                box 1 0 = 0
                box 1 0 = 1
                box 1 0 = 2
                fill = 2
                count 2 = 0
                order 2 2 = 0
                """);
    }

    private static void adviseWithNothing() {
        Calls.play("20: -1 without slabs, without boxes, with filled boxes alone", """
                advise = -1
                box 1 0 = 0
                advise = -1
                bowl 1000 = 0
                cast 0 1 1 = 0
                fill = 1
                cast 0 1 1 = 0
                pass 24 3 = 1
                advise = -1
                """);
        Calls.play("20: -1 without boxes", """
                bowl 1000 = 0
                cast 0 1 1 = 0
                pass 24 3 = 1
                advise = -1
                """);
    }

    private static void adviseOfABloomThatPolishingMends() {
        Calls.play("20: a bloom of 20, 21, 35 and 36", """
                bowl 1000 = 0
                seed 0 15 = 15
                cast 0 1 1 = 0
                box 1 0 = 0
                # temper 30: 7 a day
                pass 24 2 = 0
                advise = -1
                pass 24 1 = 1
                about 0 3 = 21
                advise = 0
                pass 24 2 = 1
                about 0 3 = 35
                advise = 0
                """);
        Calls.play("20: polished, it is 21 still", """
                bowl 1000 = 0
                seed 0 20 = 20
                cast 0 1 1 = 0
                box 1 0 = 0
                # temper 40: 6 a day
                pass 24 6 = 1
                about 0 3 = 36
                advise = -1
                polish 0 = 21
                advise = 0
                """);
    }

    private static void adviseOnlyForMoreThanNow() {
        Calls.play("20: -1 if there would be more than now by none", """
                bowl 1000 = 0
                cast 0 1 1 = 0
                pass 24 3 = 1
                cast 0 1 1 = 1
                box 1 0 = 0
                # the box is filled anyway, by slab 1
                advise = -1
                box 1 0 = 1
                advise = 0
                """);
        Calls.play("20: -1 if a polish only changes which slab is taken, or even does harm", """
                bowl 1000 = 0
                seed 0 30 = 30
                cast 0 1 1 = 0
                # bloom 24
                pass 24 6 = 1
                warm 0 50 10 = 0
                cast 0 1 1 = 1
                box 1 0 = 0
                box 1 61 = 1
                advise = -1
                fill = 1
                order 0 3 = 0
                """);
    }

    private static void adviseTheMostBoxes() {
        Calls.play("20: the greatest number of boxes wins over the smaller number of a slab", """
                bowl 1000 = 0
                cast 0 2 1 = 0
                cast 0 1 1 = 1
                pass 24 3 = 2
                box 1 0 = 0
                # the slab 0 fits no box
                advise = 1
                box 2 0 = 1
                advise = 0
                """);
        Calls.play("20: two more boxes never come of one polish, and one slab fills one box", """
                bowl 1000 = 0
                cast 0 1 1 = 0
                pass 24 3 = 1
                box 1 0 = 0
                box 1 0 = 1
                advise = 0
                polish 0 = 15
                fill = 1
                """);
    }

    private static void adviseTheSmallestNumber() {
        Calls.play("20: of several the smallest number", """
                bowl 1000 = 0
                cast 0 2 1 = 0
                cast 0 1 1 = 1
                cast 0 1 1 = 2
                pass 24 3 = 3
                box 1 0 = 0
                advise = 1
                box 1 0 = 1
                advise = 1
                polish 1 = 15
                # now one box can be filled, and the slab 2 makes two
                advise = 2
                """);
    }

    private static void adviseOnlyOnePolish() {
        Calls.play("20: polished once", """
                bowl 1000 = 0
                cast 0 1 1 = 0
                cast 0 1 1 = 1
                pass 24 4 = 2
                box 1 0 = 0
                about 0 3 = 40
                advise = -1
                polish 0 = 25
                advise = 0
                """);
    }

    private static void adviseTheLastSlab() {
        Calls.play("20: the eighth slab", """
                bowl 1000 = 0
                cast 0 1 1 = 0
                cast 0 1 1 = 1
                cast 0 1 1 = 2
                cast 0 1 1 = 3
                cast 0 1 1 = 4
                cast 0 1 1 = 5
                cast 0 1 1 = 6
                cast 0 2 1 = 7
                pass 24 3 = 8
                box 2 0 = 0
                advise = 7
                """);
    }

    private static void adviseChangesNothing() {
        Calls.play("20: nothing is changed", """
                bowl 1000 = 0
                cast 0 1 1 = 0
                cast 0 1 1 = 1
                pass 24 3 = 2
                box 1 0 = 0
                advise = 0
                advise = 0
                about 0 3 = 30
                about 1 3 = 30
                count 2 = 2
                count 4 = 0
                fill = 0
                """);
    }
}
