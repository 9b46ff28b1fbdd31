/** Bowls, crystals and promises 1 to 5: a test for each sentence of the document that names a boundary case. */
public final class BowlEdgesTest {
    public static void main(String[] args) {
        createsNothingOnTheDayZero();
        atMostFiveBowls();
        gramsAreZeroTo2000();
        warmthIs20AtFirst();
        crystalsAreNoneAtFirst();
        crystalsAreZeroTo100OfEachSort();
        eachSortMeltsAtItsWarmthOrMore();
        theHalfThatIsLeftIsCut();
        theSortThatGrows();
        nothingGrowsFrom34();
        aFourthIsCut();
        roomForGrowthIsCountedBehindTheMelting();
        growthIsLessIfNeedBe();
        temperIsAtLeastZero();
        temperIsAtMost100();
        warmthIs15To50();
        turnsAre1To40();
        seedIs1To30();
        seedFindsRoomUpTo100();
        pourIsCut();
        pourLeavesTheOtherEmpty();
        pourOfOrIntoNoGrams();
        pourOfBothWithoutGrams();
        pourOfTheSame();
        pourUpTo2000();
        noSuchBowl();
        Calls.end();
    }

    private static void createsNothingOnTheDayZero() {
        Calls.play("1: no bowls, slabs and boxes, on the day 0", """
                count 0 = 0
                count 1 = 0
                count 2 = 0
                count 3 = 0
                count 4 = 0
                count 5 = 0
                count 6 = 0
                count 7 = 0
                fill = 0
                advise = -1
                mean = 0.0
                told 0 0 = throws.IndexOutOfBoundsException
                about 0 0 = throws.IndexOutOfBoundsException
                order 0 0 = throws.IndexOutOfBoundsException
                """);
    }

    private static void atMostFiveBowls() {
        Calls.play("Bowls: at most 5, numbered from 0; 2: throws if there are 5", """
                bowl 100 = 0
                bowl 0 = 1
                bowl 100 = 2
                bowl 100 = 3
                count 1 = 4
                bowl 100 = 4
                count 1 = 5
                told 4 0 = 100
                bowl 100 = throws.IllegalStateException
                bowl 0 = throws.IllegalStateException
                # a bowl that was poured out is still one of the 5
                pour 4 0 = 200
                bowl 100 = throws.IllegalStateException
                count 1 = 5
                told 5 0 = throws.IndexOutOfBoundsException
                """);
    }

    private static void gramsAreZeroTo2000() {
        Calls.play("Bowls: grams, 0 to 2000; 2: throws if grams is not 0 to 2000", """
                bowl -1 = throws.IllegalArgumentException
                bowl 2001 = throws.IllegalArgumentException
                bowl -2147483648 = throws.IllegalArgumentException
                bowl 2147483647 = throws.IllegalArgumentException
                count 1 = 0
                bowl 0 = 0
                told 0 0 = 0
                bowl 2000 = 1
                told 1 0 = 2000
                bowl 1 = 2
                told 2 0 = 1
                bowl 1999 = 3
                told 3 0 = 1999
                """);
    }

    private static void warmthIs20AtFirst() {
        Calls.play("Bowls: a warmth (20, at first)", """
                bowl 0 = 0
                told 0 6 = 20
                bowl 2000 = 1
                told 1 6 = 20
                """);
    }

    private static void crystalsAreNoneAtFirst() {
        Calls.play("Bowls: of each sort so many (0, at first)", """
                bowl 2000 = 0
                told 0 1 = 0
                told 0 2 = 0
                told 0 3 = 0
                told 0 4 = 0
                told 0 5 = 0
                told 0 7 = 0
                """);
    }

    private static void crystalsAreZeroTo100OfEachSort() {
        Calls.play("Bowls: of each sort so many, 0 to 100", """
                bowl 1 = 0
                bowl 1 = 1
                bowl 1 = 2
                bowl 1 = 3
                bowl 1 = 4
                warm 0 15 40 = 0
                told 0 1 = 100
                warm 1 16 40 = 0
                told 1 2 = 100
                warm 2 20 40 = 0
                told 2 3 = 100
                warm 3 24 40 = 100
                told 3 4 = 100
                warm 4 28 40 = 100
                told 4 5 = 100
                # and back to none: 50, 25, 12, 6, 3, 1, 0
                warm 4 35 6 = 2
                told 4 5 = 1
                warm 4 35 1 = 0
                told 4 5 = 0
                warm 4 35 1 = 0
                told 4 5 = 0
                warm 0 50 40 = 0
                told 0 1 = 0
                """);
    }

    private static void eachSortMeltsAtItsWarmthOrMore() {
        meltsFrom(1, 15, 19);
        meltsFrom(2, 16, 23);
        meltsFrom(3, 20, 27);
        meltsFrom(4, 24, 31);
        meltsFrom(5, 28, 35);
    }

    /** Kept once where the sort grows, there are 8 of it; a turn at each other warmth shows whether half is lost. */
    private static void meltsFrom(int sort, int growsAt, int meltsAt) {
        for (int warmth = 15; warmth <= 50; warmth++) {
            ChocolateMoulds moulds = new ChocolateMoulds();
            moulds.bowl(10);
            moulds.warm(0, growsAt, 1);
            moulds.warm(0, warmth, 1);
            int left = warmth >= meltsAt ? 4 : 8;
            int grown = sortThatGrowsAt(warmth) == sort ? 8 + left / 4 : 0;
            due("A turn: as much as that at which it melts, or more; sort " + sort + " at " + warmth,
                    moulds.told(0, sort), left + grown);
        }
    }

    private static void theHalfThatIsLeftIsCut() {
        Calls.play("A turn: half is lost (the half that is left is cut)", """
                bowl 10 = 0
                seed 0 15 = 15
                warm 0 35 1 = 14
                told 0 5 = 7
                warm 0 35 1 = 6
                told 0 5 = 3
                warm 0 35 1 = 2
                told 0 5 = 1
                warm 0 35 1 = 0
                told 0 5 = 0
                warm 0 35 1 = 0
                told 0 5 = 0
                seed 0 16 = 16
                warm 0 50 1 = 16
                told 0 5 = 8
                """);
    }

    /** The sort that grows at 15, at 16, and so on to 50; 0 is none. */
    private static final int[] GROWS = {
        1, 2, 2, 2, 2, 3, 3, 3, 3, 4, 4, 4, 4, 5, 5, 5, 5, 5, 5,
        0, 0, 0, 0, 0, 0, 0, 0, 0, 0, 0, 0, 0, 0, 0, 0, 0,
    };

    private static int sortThatGrowsAt(int warmth) {
        return GROWS[warmth - 15];
    }

    private static void theSortThatGrows() {
        for (int warmth = 15; warmth <= 50; warmth++) {
            ChocolateMoulds moulds = new ChocolateMoulds();
            moulds.bowl(10);
            moulds.warm(0, warmth, 1);
            for (int sort = 1; sort <= 5; sort++) {
                due("A turn: 15 + 4 * k more than the warmth and 3, or the sort 5; sort " + sort + " at " + warmth,
                        moulds.told(0, sort), sort == sortThatGrowsAt(warmth) ? 8 : 0);
            }
        }
    }

    private static void nothingGrowsFrom34() {
        Calls.play("A turn: if the warmth is less than 34", """
                bowl 10 = 0
                bowl 10 = 1
                seed 0 12 = 12
                warm 0 33 1 = 46
                told 0 5 = 23
                warm 0 34 1 = 46
                told 0 5 = 23
                warm 0 34 40 = 46
                told 0 5 = 23
                warm 1 34 40 = 0
                warm 1 35 40 = 0
                told 1 1 = 0
                told 1 2 = 0
                told 1 3 = 0
                told 1 4 = 0
                told 1 5 = 0
                """);
    }

    private static void aFourthIsCut() {
        for (int many = 1; many <= 30; many++) {
            ChocolateMoulds moulds = new ChocolateMoulds();
            moulds.bowl(10);
            moulds.seed(0, many);
            moulds.warm(0, 30, 1);
            due("A turn: 8 more, and a fourth of what it has (cut); it has " + many,
                    moulds.told(0, 5), many + 8 + many / 4);
        }
        Calls.play("A turn: a fourth of 3, 4, 7 and 8", """
                bowl 10 = 0
                bowl 10 = 1
                bowl 10 = 2
                bowl 10 = 3
                seed 0 3 = 3
                warm 0 30 1 = 22
                seed 1 4 = 4
                warm 1 30 1 = 26
                seed 2 7 = 7
                warm 2 30 1 = 32
                seed 3 8 = 8
                warm 3 30 1 = 36
                """);
    }

    private static void roomForGrowthIsCountedBehindTheMelting() {
        Calls.play("A turn: first half is lost, then the sort grows", """
                bowl 10 = 0
                warm 0 15 40 = 0
                # at 18 nothing melts and there is no room, at 19 there is
                warm 0 18 1 = 0
                told 0 1 = 100
                told 0 2 = 0
                warm 0 19 1 = 0
                told 0 1 = 50
                told 0 2 = 8
                """);
    }

    private static void growthIsLessIfNeedBe() {
        Calls.play("A turn: all sorts together are 100 at the most: room for 8, 7, 1 and 0", """
                bowl 10 = 0
                bowl 10 = 1
                bowl 10 = 2
                bowl 10 = 3
                seed 0 30 = 30
                seed 0 30 = 60
                seed 0 30 = 90
                seed 0 2 = 92
                warm 0 15 1 = 100
                told 0 1 = 8
                seed 1 30 = 30
                seed 1 30 = 60
                seed 1 30 = 90
                seed 1 3 = 93
                warm 1 15 1 = 100
                told 1 1 = 7
                seed 2 30 = 30
                seed 2 30 = 60
                seed 2 30 = 90
                seed 2 9 = 99
                warm 2 15 1 = 100
                told 2 1 = 1
                seed 3 30 = 30
                seed 3 30 = 60
                seed 3 30 = 90
                seed 3 10 = 100
                warm 3 15 1 = 100
                told 3 1 = 0
                told 3 5 = 100
                warm 3 33 1 = 100
                told 3 5 = 100
                """);
        Calls.play("A turn: the room for a sort that has some already", """
                bowl 10 = 0
                bowl 10 = 1
                # 75 get 8 + 18 = 26, where 25 find room; 73 get 8 + 18, and are 99
                seed 0 30 = 30
                seed 0 30 = 60
                seed 0 15 = 75
                warm 0 33 1 = 100
                told 0 5 = 100
                seed 1 30 = 30
                seed 1 30 = 60
                seed 1 13 = 73
                warm 1 33 1 = 100
                told 1 5 = 99
                """);
    }

    private static void temperIsAtLeastZero() {
        Calls.play("Temper: at least 0, with the sorts 1, 2 and 3", """
                bowl 10 = 0
                bowl 10 = 1
                bowl 10 = 2
                warm 0 15 1 = 0
                seed 0 3 = 3
                told 0 7 = 0
                seed 0 1 = 4
                told 0 7 = 0
                seed 0 1 = 5
                told 0 7 = 2
                warm 1 16 1 = 0
                seed 1 3 = 3
                told 1 7 = 0
                seed 1 1 = 4
                told 1 7 = 0
                seed 1 1 = 5
                told 1 7 = 2
                warm 2 20 1 = 0
                seed 2 3 = 3
                told 2 7 = 0
                seed 2 1 = 4
                told 2 7 = 0
                seed 2 1 = 5
                told 2 7 = 2
                # a slab has no temper below 0 either
                warm 0 15 1 = 0
                cast 0 1 1 = 0
                about 0 2 = 0
                """);
    }

    private static void temperIsAtMost100() {
        Calls.play("Temper: at most 100, with the sorts 5 and 4", """
                bowl 10 = 0
                bowl 10 = 1
                seed 0 30 = 30
                seed 0 19 = 49
                told 0 7 = 98
                seed 0 1 = 50
                told 0 7 = 100
                seed 0 1 = 51
                told 0 7 = 100
                cast 0 1 1 = 0
                about 0 2 = 100
                warm 1 24 1 = 8
                seed 1 30 = 30
                seed 1 15 = 45
                told 1 7 = 98
                seed 1 1 = 46
                told 1 7 = 100
                seed 1 1 = 47
                told 1 7 = 100
                would 1 34 1 = 98
                """);
    }

    private static void warmthIs15To50() {
        Calls.play("3: throws if warmth is not 15 to 50", """
                bowl 10 = 0
                warm 0 14 1 = throws.IllegalArgumentException
                warm 0 51 1 = throws.IllegalArgumentException
                warm 0 0 1 = throws.IllegalArgumentException
                warm 0 -2147483648 1 = throws.IllegalArgumentException
                warm 0 2147483647 1 = throws.IllegalArgumentException
                told 0 6 = 20
                warm 0 15 1 = 0
                told 0 6 = 15
                warm 0 50 1 = 0
                told 0 6 = 50
                """);
    }

    private static void turnsAre1To40() {
        Calls.play("3: throws if turns is not 1 to 40", """
                bowl 10 = 0
                warm 0 30 0 = throws.IllegalArgumentException
                warm 0 30 -1 = throws.IllegalArgumentException
                warm 0 30 41 = throws.IllegalArgumentException
                warm 0 30 -2147483648 = throws.IllegalArgumentException
                warm 0 30 2147483647 = throws.IllegalArgumentException
                told 0 5 = 0
                told 0 6 = 20
                warm 0 30 1 = 16
                warm 0 30 40 = 100
                told 0 5 = 100
                """);
    }

    private static void seedIs1To30() {
        Calls.play("4: throws if many is not 1 to 30", """
                bowl 10 = 0
                seed 0 0 = throws.IllegalArgumentException
                seed 0 -1 = throws.IllegalArgumentException
                seed 0 31 = throws.IllegalArgumentException
                seed 0 -2147483648 = throws.IllegalArgumentException
                seed 0 2147483647 = throws.IllegalArgumentException
                told 0 5 = 0
                seed 0 1 = 1
                seed 0 30 = 31
                """);
    }

    private static void seedFindsRoomUpTo100() {
        Calls.play("4: all sorts together 100 at the most: room for 30, 29, 1 and 0", """
                bowl 10 = 0
                bowl 10 = 1
                bowl 10 = 2
                seed 0 30 = 30
                seed 0 30 = 60
                seed 0 10 = 70
                seed 0 30 = 100
                seed 0 1 = 100
                seed 0 30 = 100
                seed 1 30 = 30
                seed 1 30 = 60
                seed 1 11 = 71
                seed 1 30 = 100
                told 1 5 = 100
                seed 2 30 = 30
                seed 2 30 = 60
                seed 2 30 = 90
                seed 2 9 = 99
                seed 2 1 = 100
                """);
        Calls.play("4: the other sorts take room as well", """
                bowl 10 = 0
                bowl 10 = 1
                warm 0 15 40 = 0
                seed 0 30 = 0
                told 0 1 = 100
                warm 1 24 6 = 88
                told 1 4 = 88
                seed 1 30 = 12
                told 1 4 = 88
                """);
    }

    private static void pourIsCut() {
        Calls.play("5: (its own * its grams and the others * theirs, added) / all grams, cut", """
                bowl 1 = 0
                bowl 1 = 1
                bowl 1 = 2
                bowl 2 = 3
                warm 0 24 1 = 8
                seed 0 3 = 3
                warm 1 25 1 = 8
                # (8 + 8) / 2, (3 + 0) / 2, (24 + 25) / 2
                pour 1 0 = 2
                told 0 4 = 8
                told 0 5 = 1
                told 0 6 = 24
                # of 2 * 1 and 1 * 2, added, a third
                seed 2 2 = 2
                pour 2 0 = 3
                told 0 5 = 1
                told 0 4 = 5
                told 0 6 = 22
                # 1 * 3 and 0 * 2 are less than 5
                pour 3 0 = 5
                told 0 5 = 0
                told 0 4 = 3
                told 0 6 = 21
                """);
        Calls.play("5: the greatest numbers", """
                bowl 1000 = 0
                bowl 1000 = 1
                warm 0 28 40 = 100
                warm 1 28 40 = 100
                warm 0 33 1 = 100
                warm 1 33 1 = 100
                pour 0 1 = 2000
                told 1 5 = 100
                told 1 6 = 33
                """);
    }

    private static void pourLeavesTheOtherEmpty() {
        Calls.play("5: the other one is empty of grams, and has no crystals", """
                bowl 100 = 0
                bowl 100 = 1
                warm 0 15 3 = 0
                warm 0 16 1 = 0
                warm 0 20 1 = 0
                warm 0 24 1 = 0
                warm 0 28 1 = 15
                told 0 1 = 3
                told 0 2 = 2
                told 0 3 = 4
                told 0 4 = 8
                told 0 5 = 8
                pour 0 1 = 200
                told 0 0 = 0
                told 0 1 = 0
                told 0 2 = 0
                told 0 3 = 0
                told 0 4 = 0
                told 0 5 = 0
                told 0 7 = 0
                # half of each, as this one had none
                told 1 1 = 1
                told 1 2 = 1
                told 1 3 = 2
                told 1 4 = 4
                told 1 5 = 4
                """);
    }

    private static void pourOfOrIntoNoGrams() {
        Calls.play("5: one of both is without grams", """
                bowl 0 = 0
                bowl 1 = 1
                seed 0 30 = 30
                seed 1 11 = 11
                warm 1 34 1 = 22
                # 1 gram in all: what has no grams counts for nothing
                pour 1 0 = 1
                told 0 5 = 11
                told 0 6 = 34
                told 1 5 = 0
                seed 1 30 = 30
                pour 1 0 = 1
                told 0 5 = 11
                told 0 6 = 34
                told 1 5 = 0
                pour 0 1 = 1
                told 1 5 = 11
                """);
    }

    private static void pourOfBothWithoutGrams() {
        Calls.play("5: throws if both are without grams", """
                bowl 0 = 0
                bowl 0 = 1
                bowl 1 = 2
                seed 0 30 = 30
                pour 0 1 = throws.IllegalArgumentException
                pour 1 0 = throws.IllegalArgumentException
                told 0 5 = 30
                told 1 5 = 0
                pour 2 1 = 1
                pour 0 2 = throws.IllegalArgumentException
                pour 0 1 = 1
                """);
    }

    private static void pourOfTheSame() {
        Calls.play("5: throws if both are the same", """
                bowl 100 = 0
                bowl 0 = 1
                bowl 2000 = 2
                seed 0 5 = 5
                pour 0 0 = throws.IllegalArgumentException
                pour 1 1 = throws.IllegalArgumentException
                pour 2 2 = throws.IllegalArgumentException
                told 0 0 = 100
                told 0 5 = 5
                """);
    }

    private static void pourUpTo2000() {
        Calls.play("5: throws if they would be more than 2000 together", """
                bowl 1000 = 0
                bowl 1001 = 1
                bowl 999 = 2
                bowl 2000 = 3
                bowl 1 = 4
                pour 0 1 = throws.IllegalArgumentException
                pour 1 0 = throws.IllegalArgumentException
                pour 4 3 = throws.IllegalArgumentException
                pour 3 4 = throws.IllegalArgumentException
                pour 2 1 = 2000
                told 1 0 = 2000
                told 2 0 = 0
                # no grams may still come to 2000
                pour 2 1 = 2000
                pour 3 2 = 2000
                pour 4 0 = 1001
                count 5 = 5001
                """);
    }

    private static void noSuchBowl() {
        Calls.play("3, 4, 5: throws if there is no such bowl, and there is none", """
                warm 0 20 1 = throws.IndexOutOfBoundsException
                seed 0 1 = throws.IndexOutOfBoundsException
                pour 0 1 = throws.IndexOutOfBoundsException
                """);
        Calls.play("3, 4, 5: throws if there is no such bowl", """
                bowl 10 = 0
                bowl 10 = 1
                warm 2 20 1 = throws.IndexOutOfBoundsException
                warm -1 20 1 = throws.IndexOutOfBoundsException
                warm -2147483648 20 1 = throws.IndexOutOfBoundsException
                warm 2147483647 20 1 = throws.IndexOutOfBoundsException
                seed 2 1 = throws.IndexOutOfBoundsException
                seed -1 1 = throws.IndexOutOfBoundsException
                seed -2147483648 1 = throws.IndexOutOfBoundsException
                seed 2147483647 1 = throws.IndexOutOfBoundsException
                pour 2 0 = throws.IndexOutOfBoundsException
                pour 0 2 = throws.IndexOutOfBoundsException
                pour -1 0 = throws.IndexOutOfBoundsException
                pour 0 -1 = throws.IndexOutOfBoundsException
                pour -2147483648 2147483647 = throws.IndexOutOfBoundsException
                warm 1 20 1 = 0
                seed 1 1 = 1
                pour 1 0 = 20
                """);
        Calls.play("3, 4, 5: the number 5 is no bowl, though there are 5", """
                bowl 10 = 0
                bowl 10 = 1
                bowl 10 = 2
                bowl 10 = 3
                bowl 10 = 4
                warm 5 20 1 = throws.IndexOutOfBoundsException
                seed 5 1 = throws.IndexOutOfBoundsException
                pour 5 0 = throws.IndexOutOfBoundsException
                pour 0 5 = throws.IndexOutOfBoundsException
                seed 4 1 = 1
                """);
    }

    private static void due(String what, int got, int want) {
        Calls.due(what, String.valueOf(got), String.valueOf(want));
    }
}
