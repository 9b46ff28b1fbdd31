/** Slabs, days and promises 6 to 9 and 12: a test for each sentence of the document that names a boundary case. */
public final class SlabEdgesTest {
    public static void main(String[] args) {
        atMostEightSlabs();
        aPlaceIsFreeAgain();
        columnsAndRowsAre1To6();
        tenGramsForEachSquare();
        theTemperThatItsBowlHad();
        castOfNoBowl();
        bloomIsAtMost100();
        bloomOfADayIsCut();
        roomWarmerThan24();
        polishIsAtLeastZero();
        noSuchSlab();
        grooves();
        theOtherPartComesToTheEnd();
        partsAreAlike();
        splitWithEightSlabs();
        meltUpTo2000();
        slabsMoveUpBehindAMelt();
        meltLeavesTheBowlsCrystals();
        roomIs10To40();
        daysAre1To60();
        passTellsABloomOfMoreThan20();
        longRun();
        Calls.end();
    }

    private static void atMostEightSlabs() {
        Calls.play("Slabs: at most 8, numbered from 0; 6: throws if there are 8", """
                bowl 2000 = 0
                cast 0 1 1 = 0
                cast 0 1 1 = 1
                cast 0 1 1 = 2
                cast 0 1 1 = 3
                cast 0 1 1 = 4
                cast 0 1 1 = 5
                cast 0 1 1 = 6
                count 2 = 7
                cast 0 1 1 = 7
                count 2 = 8
                about 7 0 = 1
                cast 0 1 1 = throws.IllegalStateException
                cast 0 6 6 = throws.IllegalStateException
                about 8 0 = throws.IndexOutOfBoundsException
                told 0 0 = 1920
                """);
    }

    private static void aPlaceIsFreeAgain() {
        Calls.play("Slabs: a place is free again behind melt and fill", """
                bowl 2000 = 0
                cast 0 1 1 = 0
                cast 0 1 2 = 1
                cast 0 1 1 = 2
                cast 0 1 1 = 3
                cast 0 1 1 = 4
                cast 0 1 1 = 5
                cast 0 1 1 = 6
                cast 0 1 1 = 7
                melt 7 0 = 1920
                cast 0 3 1 = 7
                cast 0 3 1 = throws.IllegalStateException
                melt 0 0 = 1900
                cast 0 4 1 = 7
                cast 0 4 1 = throws.IllegalStateException
                about 6 0 = 3
                box 2 0 = 0
                fill = 1
                cast 0 5 1 = 7
                about 6 0 = 4
                cast 0 1 1 = throws.IllegalStateException
                """);
    }

    private static void columnsAndRowsAre1To6() {
        Calls.play("Slabs: 1 to 6 each; 6: throws if w or h is not 1 to 6", """
                bowl 2000 = 0
                cast 0 0 3 = throws.IllegalArgumentException
                cast 0 7 3 = throws.IllegalArgumentException
                cast 0 3 0 = throws.IllegalArgumentException
                cast 0 3 7 = throws.IllegalArgumentException
                cast 0 -1 -1 = throws.IllegalArgumentException
                cast 0 -2147483648 1 = throws.IllegalArgumentException
                cast 0 1 2147483647 = throws.IllegalArgumentException
                cast 0 65536 65536 = throws.IllegalArgumentException
                count 2 = 0
                cast 0 1 6 = 0
                about 0 0 = 1
                about 0 1 = 6
                cast 0 6 1 = 1
                about 1 0 = 6
                about 1 1 = 1
                cast 0 6 6 = 2
                about 2 5 = 36
                cast 0 1 1 = 3
                about 3 5 = 1
                """);
    }

    private static void tenGramsForEachSquare() {
        Calls.play("Slabs: 10 grams for each square; 6: throws if the bowl has not so many grams", """
                bowl 359 = 0
                bowl 360 = 1
                bowl 9 = 2
                bowl 10 = 3
                bowl 0 = 4
                cast 0 6 6 = throws.IllegalStateException
                cast 1 6 6 = 0
                told 1 0 = 0
                cast 1 1 1 = throws.IllegalStateException
                cast 2 1 1 = throws.IllegalStateException
                cast 3 1 2 = throws.IllegalStateException
                cast 3 1 1 = 1
                told 3 0 = 0
                cast 4 1 1 = throws.IllegalStateException
                cast 0 5 6 = 2
                told 0 0 = 59
                cast 0 1 6 = throws.IllegalStateException
                cast 0 5 1 = 3
                told 0 0 = 9
                cast 0 1 1 = throws.IllegalStateException
                """);
    }

    private static void theTemperThatItsBowlHad() {
        Calls.play("Slabs: the temper that its bowl had, 0 and 100; a bloom and an age of 0, at first", """
                bowl 100 = 0
                cast 0 1 1 = 0
                about 0 2 = 0
                seed 0 30 = 30
                seed 0 30 = 60
                cast 0 1 1 = 1
                about 1 2 = 100
                about 0 2 = 0
                about 1 3 = 0
                about 1 4 = 0
                pass 24 60 = 1
                cast 0 1 1 = 2
                about 2 3 = 0
                about 2 4 = 0
                warm 0 50 10 = 0
                about 1 2 = 100
                """);
    }

    private static void castOfNoBowl() {
        Calls.play("6: throws if there is no such bowl", """
                cast 0 1 1 = throws.IndexOutOfBoundsException
                bowl 100 = 0
                cast 1 1 1 = throws.IndexOutOfBoundsException
                cast -1 1 1 = throws.IndexOutOfBoundsException
                cast 5 1 1 = throws.IndexOutOfBoundsException
                cast -2147483648 1 1 = throws.IndexOutOfBoundsException
                cast 2147483647 1 1 = throws.IndexOutOfBoundsException
                count 2 = 0
                """);
    }

    private static void bloomIsAtMost100() {
        Calls.play("Slabs: a bloom, 0 to 100; a day: at most 100", """
                bowl 100 = 0
                cast 0 1 1 = 0
                seed 0 5 = 5
                cast 0 1 1 = 1
                pass 24 10 = 2
                # 10 a day are just 100, 9 a day 90
                about 0 3 = 100
                about 1 3 = 90
                pass 24 1 = 2
                about 0 3 = 100
                about 1 3 = 99
                pass 24 1 = 2
                about 1 3 = 100
                pass 40 60 = 2
                about 0 3 = 100
                about 1 3 = 100
                about 0 4 = 72
                polish 0 = 85
                """);
    }

    private static void bloomOfADayIsCut() {
        Calls.play("A day: (100 - temper) / 10, with tempers 90, 92, 98 and 100", """
                bowl 100 = 0
                seed 0 30 = 30
                seed 0 15 = 45
                cast 0 1 1 = 0
                seed 0 1 = 46
                cast 0 1 1 = 1
                seed 0 3 = 49
                cast 0 1 1 = 2
                seed 0 1 = 50
                cast 0 1 1 = 3
                pass 24 20 = 0
                about 0 3 = 20
                about 1 3 = 0
                about 2 3 = 0
                about 3 3 = 0
                about 3 4 = 20
                pass 24 1 = 1
                about 0 3 = 21
                """);
        Calls.play("A day: 9 days of temper 91 leave no bloom, of temper 89 one a day", """
                bowl 200 = 0
                bowl 200 = 1
                warm 0 24 2 = 18
                pour 0 1 = 400
                seed 1 30 = 30
                seed 1 10 = 40
                told 1 7 = 89
                cast 1 1 1 = 0
                seed 1 1 = 41
                told 1 7 = 91
                cast 1 1 1 = 1
                pass 24 9 = 0
                about 0 3 = 9
                about 1 3 = 0
                """);
    }

    private static void roomWarmerThan24() {
        Calls.play("A day: if the room is warmer than 24, by the degrees that it is, times 2", """
                bowl 100 = 0
                seed 0 30 = 30
                seed 0 20 = 50
                cast 0 1 1 = 0
                pass 10 1 = 0
                about 0 3 = 0
                pass 23 1 = 0
                about 0 3 = 0
                pass 24 1 = 0
                about 0 3 = 0
                pass 25 1 = 0
                about 0 3 = 2
                pass 26 1 = 0
                about 0 3 = 6
                pass 40 1 = 1
                about 0 3 = 38
                about 0 4 = 6
                """);
    }

    private static void polishIsAtLeastZero() {
        Calls.play("7: 15 less, at least 0, from blooms 0, 14, 15, 16 and 100", """
                bowl 100 = 0
                seed 0 30 = 30
                seed 0 20 = 50
                cast 0 1 1 = 0
                polish 0 = 0
                pass 31 1 = 0
                about 0 3 = 14
                polish 0 = 0
                about 0 3 = 0
                pass 32 1 = 0
                about 0 3 = 16
                polish 0 = 1
                polish 0 = 0
                pass 40 60 = 1
                about 0 3 = 100
                polish 0 = 85
                about 0 4 = 62
                """);
        Calls.play("7: a bloom of 15", """
                bowl 100 = 0
                seed 0 25 = 25
                cast 0 1 1 = 0
                pass 24 3 = 0
                about 0 3 = 15
                polish 0 = 0
                about 0 3 = 0
                """);
    }

    private static void noSuchSlab() {
        Calls.play("7, 8, 9: throws if there is no such slab", """
                polish 0 = throws.IndexOutOfBoundsException
                split 0 1 true = throws.IndexOutOfBoundsException
                melt 0 0 = throws.IndexOutOfBoundsException
                bowl 1000 = 0
                melt 0 0 = throws.IndexOutOfBoundsException
                cast 0 2 2 = 0
                cast 0 2 2 = 1
                polish 2 = throws.IndexOutOfBoundsException
                polish -1 = throws.IndexOutOfBoundsException
                polish 8 = throws.IndexOutOfBoundsException
                polish -2147483648 = throws.IndexOutOfBoundsException
                polish 2147483647 = throws.IndexOutOfBoundsException
                split 2 1 true = throws.IndexOutOfBoundsException
                split -1 1 true = throws.IndexOutOfBoundsException
                split 8 1 false = throws.IndexOutOfBoundsException
                split -2147483648 1 true = throws.IndexOutOfBoundsException
                split 2147483647 1 false = throws.IndexOutOfBoundsException
                melt 2 0 = throws.IndexOutOfBoundsException
                melt -1 0 = throws.IndexOutOfBoundsException
                melt 8 0 = throws.IndexOutOfBoundsException
                melt -2147483648 0 = throws.IndexOutOfBoundsException
                melt 2147483647 0 = throws.IndexOutOfBoundsException
                # the last one is there until it is melted
                polish 1 = 0
                melt 1 0 = 960
                polish 1 = throws.IndexOutOfBoundsException
                polish 0 = 0
                """);
    }

    private static void grooves() {
        Calls.play("8: throws if at is less than 1, or not less than its columns", """
                bowl 1000 = 0
                cast 0 6 2 = 0
                split 0 0 false = throws.IndexOutOfBoundsException
                split 0 -1 false = throws.IndexOutOfBoundsException
                split 0 6 false = throws.IndexOutOfBoundsException
                split 0 7 false = throws.IndexOutOfBoundsException
                split 0 -2147483648 false = throws.IndexOutOfBoundsException
                split 0 2147483647 false = throws.IndexOutOfBoundsException
                split 0 5 false = 1
                about 0 0 = 5
                about 1 0 = 1
                split 0 5 false = throws.IndexOutOfBoundsException
                split 0 1 false = 2
                about 0 0 = 1
                about 2 0 = 4
                # one column has no groove
                split 0 1 false = throws.IndexOutOfBoundsException
                split 0 1 true = 3
                """);
        Calls.play("8: throws if at is less than 1, or not less than its rows", """
                bowl 1000 = 0
                cast 0 2 6 = 0
                split 0 0 true = throws.IndexOutOfBoundsException
                split 0 -1 true = throws.IndexOutOfBoundsException
                split 0 6 true = throws.IndexOutOfBoundsException
                split 0 7 true = throws.IndexOutOfBoundsException
                split 0 -2147483648 true = throws.IndexOutOfBoundsException
                split 0 2147483647 true = throws.IndexOutOfBoundsException
                # 5 is a groove between rows alone
                split 0 5 false = throws.IndexOutOfBoundsException
                split 0 5 true = 1
                about 0 1 = 5
                about 1 1 = 1
                split 0 1 true = 2
                about 0 1 = 1
                about 2 1 = 4
                # one row has no groove
                split 0 1 true = throws.IndexOutOfBoundsException
                split 0 1 false = 3
                # one square has none at all
                split 3 1 true = throws.IndexOutOfBoundsException
                split 3 1 false = throws.IndexOutOfBoundsException
                """);
    }

    private static void theOtherPartComesToTheEnd() {
        Calls.play("Breaking: the left part stays at its place, the other one comes to the end", """
                bowl 1000 = 0
                cast 0 5 1 = 0
                cast 0 6 2 = 1
                cast 0 4 1 = 2
                split 1 2 false = 3
                about 0 0 = 5
                about 1 0 = 2
                about 1 1 = 2
                about 2 0 = 4
                about 3 0 = 4
                about 3 1 = 2
                """);
        Calls.play("Breaking: the upper part stays at its place, the other one comes to the end", """
                bowl 1000 = 0
                cast 0 5 1 = 0
                cast 0 3 6 = 1
                cast 0 4 1 = 2
                split 1 2 true = 3
                about 1 0 = 3
                about 1 1 = 2
                about 2 0 = 4
                about 3 0 = 3
                about 3 1 = 4
                """);
    }

    private static void partsAreAlike() {
        Calls.play("Breaking: as many squares together, the same temper, bloom and age", """
                bowl 1000 = 0
                seed 0 30 = 30
                cast 0 6 6 = 0
                pass 25 3 = 0
                split 0 1 true = 1
                count 6 = 36
                about 0 5 = 6
                about 1 5 = 30
                about 0 2 = 60
                about 1 2 = 60
                about 0 3 = 18
                about 1 3 = 18
                about 0 4 = 3
                about 1 4 = 3
                # from then on each goes its own way
                polish 0 = 3
                about 1 3 = 18
                pass 24 1 = 1
                about 0 3 = 7
                about 1 3 = 22
                told 0 0 = 640
                """);
    }

    private static void splitWithEightSlabs() {
        Calls.play("8: throws if there are 8 slabs", """
                bowl 1000 = 0
                cast 0 2 2 = 0
                cast 0 2 2 = 1
                cast 0 2 2 = 2
                cast 0 2 2 = 3
                cast 0 2 2 = 4
                cast 0 2 2 = 5
                cast 0 2 2 = 6
                split 3 1 true = 7
                split 0 1 true = throws.IllegalStateException
                split 0 1 false = throws.IllegalStateException
                about 0 0 = 2
                about 0 1 = 2
                count 6 = 28
                melt 7 0 = 740
                split 0 1 false = 7
                """);
    }

    private static void meltUpTo2000() {
        Calls.play("9: throws if the bowl would have more than 2000", """
                bowl 40 = 0
                bowl 1990 = 1
                bowl 1991 = 2
                bowl 2000 = 3
                bowl 1640 = 4
                cast 0 1 1 = 0
                cast 0 1 1 = 1
                cast 0 1 2 = 2
                melt 0 2 = throws.IllegalArgumentException
                melt 0 3 = throws.IllegalArgumentException
                melt 2 1 = throws.IllegalArgumentException
                count 2 = 3
                melt 0 1 = 2000
                told 1 0 = 2000
                melt 0 1 = throws.IllegalArgumentException
                melt 0 0 = 10
                melt 0 4 = 1660
                """);
        Calls.play("9: the greatest slab", """
                bowl 2000 = 0
                bowl 1640 = 1
                bowl 1641 = 2
                cast 0 6 6 = 0
                melt 0 2 = throws.IllegalArgumentException
                melt 0 1 = 2000
                count 2 = 0
                """);
    }

    private static void slabsMoveUpBehindAMelt() {
        Calls.play("9: slabs behind it move up: of the first, of one between and of the last", """
                bowl 1000 = 0
                cast 0 1 1 = 0
                cast 0 2 1 = 1
                cast 0 3 1 = 2
                cast 0 4 1 = 3
                cast 0 5 1 = 4
                melt 0 0 = 860
                about 0 0 = 2
                about 1 0 = 3
                about 2 0 = 4
                about 3 0 = 5
                about 4 0 = throws.IndexOutOfBoundsException
                melt 1 0 = 890
                about 0 0 = 2
                about 1 0 = 4
                about 2 0 = 5
                about 3 0 = throws.IndexOutOfBoundsException
                melt 2 0 = 940
                about 0 0 = 2
                about 1 0 = 4
                about 2 0 = throws.IndexOutOfBoundsException
                melt 0 0 = 960
                melt 0 0 = 1000
                count 2 = 0
                melt 0 0 = throws.IndexOutOfBoundsException
                """);
    }

    private static void meltLeavesTheBowlsCrystals() {
        Calls.play("9: crystals and warmth of the bowl stay, also of one without grams; no such bowl", """
                bowl 10 = 0
                seed 0 30 = 30
                cast 0 1 1 = 0
                bowl 0 = 1
                warm 0 15 1 = 52
                melt 0 2 = throws.IndexOutOfBoundsException
                melt 0 -1 = throws.IndexOutOfBoundsException
                melt 0 5 = throws.IndexOutOfBoundsException
                melt 0 -2147483648 = throws.IndexOutOfBoundsException
                melt 0 2147483647 = throws.IndexOutOfBoundsException
                melt 0 0 = 10
                told 0 1 = 8
                told 0 5 = 30
                told 0 6 = 15
                cast 0 1 1 = 0
                melt 0 1 = 10
                told 1 5 = 0
                told 1 6 = 20
                """);
    }

    private static void roomIs10To40() {
        Calls.play("12: throws if room is not 10 to 40", """
                pass 9 1 = throws.IllegalArgumentException
                pass 41 1 = throws.IllegalArgumentException
                pass -1 1 = throws.IllegalArgumentException
                pass -2147483648 1 = throws.IllegalArgumentException
                pass 2147483647 1 = throws.IllegalArgumentException
                count 0 = 0
                pass 10 1 = 0
                pass 40 1 = 0
                count 0 = 2
                """);
    }

    private static void daysAre1To60() {
        Calls.play("12: throws if days is not 1 to 60", """
                bowl 10 = 0
                cast 0 1 1 = 0
                pass 20 0 = throws.IllegalArgumentException
                pass 20 -1 = throws.IllegalArgumentException
                pass 20 61 = throws.IllegalArgumentException
                pass 20 -2147483648 = throws.IllegalArgumentException
                pass 20 2147483647 = throws.IllegalArgumentException
                count 0 = 0
                about 0 3 = 0
                about 0 4 = 0
                pass 20 1 = 0
                count 0 = 1
                about 0 4 = 1
                pass 20 60 = 1
                count 0 = 61
                about 0 4 = 61
                """);
    }

    private static void passTellsABloomOfMoreThan20() {
        Calls.play("12: how many slabs have a bloom of more than 20 then: 20, 21 and 22", """
                bowl 100 = 0
                pass 24 1 = 0
                cast 0 1 1 = 0
                seed 0 15 = 15
                cast 0 1 1 = 1
                seed 0 30 = 45
                cast 0 1 1 = 2
                pass 24 2 = 0
                about 0 3 = 20
                about 1 3 = 14
                about 2 3 = 2
                pass 24 1 = 2
                about 0 3 = 30
                about 1 3 = 21
                about 2 3 = 3
                pass 24 17 = 2
                about 2 3 = 20
                pass 24 1 = 3
                about 2 3 = 21
                polish 2 = 6
                pass 24 1 = 2
                """);
    }

    /** An object is used for at most 512 calls: here 507 of them let 60 days go by. */
    private static void longRun() {
        ChocolateMoulds moulds = new ChocolateMoulds();
        moulds.bowl(10);
        moulds.cast(0, 1, 1);
        for (int i = 0; i < 507; i++) {
            due("the call of pass " + i, moulds.pass(40, 60), 1);
        }
        due("the bloom behind 507 times 60 days", moulds.about(0, 3), 100);
        due("the age behind 507 times 60 days", moulds.about(0, 4), 30420);
        due("the day behind 507 times 60 days", moulds.count(0), 30420);
    }

    private static void due(String what, int got, int want) {
        Calls.due(what, String.valueOf(got), String.valueOf(want));
    }
}
