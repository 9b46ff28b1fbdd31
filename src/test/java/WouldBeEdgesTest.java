/** Promises 17 to 19: a test for each sentence of the document that names a boundary case. */
public final class WouldBeEdgesTest {
    public static void main(String[] args) {
        wouldOfNoBowl();
        wouldOfAWarmth15To50();
        wouldOfTurns1To40();
        wouldChangesNothing();
        wouldIsWhatWarmTells();
        bestOfNoBowl();
        bestIs0To2();
        bestOfTurns1To10();
        bestTheLeastFirstOne();
        bestTheLeastSecondOne();
        bestTheOneBehindTheOther();
        bestIsWhatWarmTells();
        bestChangesNothing();
        untilOfNoSlab();
        untilOfARoom10To40();
        untilIsZeroIfItIsNow();
        untilNever();
        untilTheDayThatIsMoreThan20();
        untilIsWhatDaysTell();
        Calls.end();
    }

    private static void wouldOfNoBowl() {
        Calls.play("17: throws if there is no such bowl", """
                would 0 20 1 = throws.IndexOutOfBoundsException
                bowl 10 = 0
                would 1 20 1 = throws.IndexOutOfBoundsException
                would -1 20 1 = throws.IndexOutOfBoundsException
                would 5 20 1 = throws.IndexOutOfBoundsException
                would -2147483648 20 1 = throws.IndexOutOfBoundsException
                would 2147483647 20 1 = throws.IndexOutOfBoundsException
                would 0 20 1 = 0
                """);
    }

    private static void wouldOfAWarmth15To50() {
        Calls.play("17: throws if warmth is not 15 to 50", """
                bowl 10 = 0
                seed 0 20 = 20
                would 0 14 1 = throws.IllegalArgumentException
                would 0 51 1 = throws.IllegalArgumentException
                would 0 -2147483648 1 = throws.IllegalArgumentException
                would 0 2147483647 1 = throws.IllegalArgumentException
                would 0 15 1 = 32
                would 0 50 1 = 20
                """);
    }

    private static void wouldOfTurns1To40() {
        Calls.play("17: throws if turns is not 1 to 40", """
                bowl 10 = 0
                would 0 30 0 = throws.IllegalArgumentException
                would 0 30 -1 = throws.IllegalArgumentException
                would 0 30 41 = throws.IllegalArgumentException
                would 0 30 -2147483648 = throws.IllegalArgumentException
                would 0 30 2147483647 = throws.IllegalArgumentException
                would 0 30 1 = 16
                would 0 30 2 = 36
                would 0 30 40 = 100
                """);
    }

    private static void wouldChangesNothing() {
        Calls.play("17: nothing is changed", """
                bowl 10 = 0
                seed 0 9 = 9
                would 0 50 40 = 0
                would 0 30 1 = 38
                would 0 30 1 = 38
                told 0 0 = 10
                told 0 5 = 9
                told 0 6 = 20
                told 0 7 = 18
                """);
    }

    private static void wouldIsWhatWarmTells() {
        for (int warmth = 15; warmth <= 50; warmth++) {
            for (int turns = 1; turns <= 40; turns++) {
                ChocolateMoulds moulds = mixedBowl();
                int would = moulds.would(0, warmth, turns);
                due("17: the temper behind warm() at " + warmth + " for " + turns,
                        would, moulds.warm(0, warmth, turns));
            }
        }
    }

    /** A bowl that has something of each sort. */
    private static ChocolateMoulds mixedBowl() {
        ChocolateMoulds moulds = new ChocolateMoulds();
        moulds.bowl(100);
        moulds.warm(0, 15, 2);
        moulds.warm(0, 16, 2);
        moulds.warm(0, 20, 1);
        moulds.warm(0, 24, 2);
        moulds.seed(0, 7);
        return moulds;
    }

    private static void bestOfNoBowl() {
        Calls.play("18: throws if there is no such bowl", """
                best 0 1 0 = throws.IndexOutOfBoundsException
                bowl 10 = 0
                best 1 1 0 = throws.IndexOutOfBoundsException
                best -1 1 0 = throws.IndexOutOfBoundsException
                best 5 1 0 = throws.IndexOutOfBoundsException
                best -2147483648 1 0 = throws.IndexOutOfBoundsException
                best 2147483647 1 0 = throws.IndexOutOfBoundsException
                best 0 1 0 = 28
                """);
    }

    private static void bestIs0To2() {
        Calls.play("18: throws if what is not 0 to 2", """
                bowl 10 = 0
                best 0 1 -1 = throws.IndexOutOfBoundsException
                best 0 1 3 = throws.IndexOutOfBoundsException
                best 0 1 -2147483648 = throws.IndexOutOfBoundsException
                best 0 1 2147483647 = throws.IndexOutOfBoundsException
                best 0 1 0 = 28
                best 0 1 1 = 28
                best 0 1 2 = 36
                """);
    }

    private static void bestOfTurns1To10() {
        Calls.play("18: throws if turns is not 1 to 10", """
                bowl 10 = 0
                best 0 0 2 = throws.IllegalArgumentException
                best 0 -1 2 = throws.IllegalArgumentException
                best 0 11 2 = throws.IllegalArgumentException
                best 0 -2147483648 2 = throws.IllegalArgumentException
                best 0 2147483647 2 = throws.IllegalArgumentException
                best 0 1 2 = 36
                # 8, 18, 30, 45 of the sort 5
                best 0 2 2 = 90
                best 0 10 2 = 100
                """);
    }

    private static void bestTheLeastFirstOne() {
        Calls.play("18: of several the least first one, and it is 15 if all are as good", """
                bowl 10 = 0
                bowl 10 = 1
                # 28 to 33 are as good
                best 0 2 0 = 28
                best 0 2 1 = 28
                seed 1 30 = 30
                seed 1 30 = 60
                best 1 1 0 = 15
                best 1 1 1 = 15
                best 1 1 2 = 100
                """);
    }

    private static void bestTheLeastSecondOne() {
        Calls.play("18: then the least second one, above the first one", """
                bowl 10 = 0
                # 10 turns at 15 make 100 of the sort 1, which 10 turns at 24 melt, for 100 of the sort 4
                best 0 10 0 = 15
                best 0 10 1 = 24
                best 0 10 2 = 100
                """);
        Calls.play("18: then the least second one, below the first one", """
                bowl 10 = 0
                warm 0 18 3 = 0
                warm 0 25 5 = 64
                # two turns at 24 make 100 of the sort 4, so that nothing can grow at 15
                best 0 2 0 = 24
                best 0 2 1 = 15
                best 0 2 2 = 100
                """);
    }

    private static void bestTheOneBehindTheOther() {
        Calls.play("18: at each of which the bowl is kept for some turns, the one behind the other", """
                bowl 10 = 0
                warm 0 16 40 = 0
                # 100 of the sort 2 melt to 50 and 25, and there are 8 and 18 of the sort 5
                best 0 1 2 = 11
                best 0 1 0 = 28
                best 0 1 1 = 28
                """);
    }

    private static void bestIsWhatWarmTells() {
        for (int turns = 1; turns <= 10; turns++) {
            int[] due = {-1, -1, -1};
            for (int first = 15; first <= 50; first++) {
                for (int second = 15; second <= 50; second++) {
                    ChocolateMoulds tried = mixedBowl();
                    tried.warm(0, first, turns);
                    int temper = tried.warm(0, second, turns);
                    if (temper > due[2]) {
                        due = new int[] {first, second, temper};
                    }
                }
            }
            for (int what = 0; what <= 2; what++) {
                due("18: two warmths for " + turns + " turns, what " + what,
                        mixedBowl().best(0, turns, what), due[what]);
            }
        }
    }

    private static void bestChangesNothing() {
        Calls.play("18: nothing is changed", """
                bowl 10 = 0
                seed 0 9 = 9
                best 0 10 0 = 15
                best 0 10 0 = 15
                told 0 0 = 10
                told 0 1 = 0
                told 0 4 = 0
                told 0 5 = 9
                told 0 6 = 20
                told 0 7 = 18
                """);
    }

    private static void untilOfNoSlab() {
        Calls.play("19: throws if there is no such slab", """
                until 0 20 = throws.IndexOutOfBoundsException
                bowl 100 = 0
                cast 0 1 1 = 0
                until 1 20 = throws.IndexOutOfBoundsException
                until -1 20 = throws.IndexOutOfBoundsException
                until 8 20 = throws.IndexOutOfBoundsException
                until -2147483648 20 = throws.IndexOutOfBoundsException
                until 2147483647 20 = throws.IndexOutOfBoundsException
                until 0 20 = 3
                melt 0 0 = 100
                until 0 20 = throws.IndexOutOfBoundsException
                """);
    }

    private static void untilOfARoom10To40() {
        Calls.play("19: throws if room is not 10 to 40, also of a slab that has bloomed", """
                bowl 100 = 0
                cast 0 1 1 = 0
                until 0 9 = throws.IllegalArgumentException
                until 0 41 = throws.IllegalArgumentException
                until 0 -2147483648 = throws.IllegalArgumentException
                until 0 2147483647 = throws.IllegalArgumentException
                until 0 10 = 3
                until 0 40 = 1
                pass 40 1 = 1
                until 0 9 = throws.IllegalArgumentException
                until 0 41 = throws.IllegalArgumentException
                until 0 10 = 0
                until 0 40 = 0
                """);
    }

    private static void untilIsZeroIfItIsNow() {
        Calls.play("19: 0 if it is now: a bloom of 21, and not of 20", """
                bowl 100 = 0
                seed 0 15 = 15
                cast 0 1 1 = 0
                seed 0 15 = 30
                cast 0 1 1 = 1
                pass 24 3 = 1
                about 0 3 = 21
                until 0 24 = 0
                pass 24 2 = 1
                about 1 3 = 20
                until 1 24 = 1
                pass 40 60 = 2
                until 1 24 = 0
                """);
        Calls.play("19: 0 if it is now, though no day makes it more", """
                bowl 100 = 0
                seed 0 30 = 30
                seed 0 30 = 60
                cast 0 1 1 = 0
                pass 35 1 = 1
                about 0 3 = 22
                until 0 24 = 0
                polish 0 = 7
                until 0 24 = -1
                """);
    }

    private static void untilNever() {
        Calls.play("19: -1 if it never is: tempers 90, 92 and 100, rooms 24 and 25", """
                bowl 100 = 0
                seed 0 30 = 30
                seed 0 15 = 45
                cast 0 1 1 = 0
                seed 0 1 = 46
                cast 0 1 1 = 1
                seed 0 4 = 50
                cast 0 1 1 = 2
                until 0 24 = 21
                until 1 24 = -1
                until 2 24 = -1
                until 1 10 = -1
                until 1 25 = 11
                until 2 25 = 11
                pass 34 1 = 1
                about 2 3 = 20
                until 2 24 = -1
                until 2 25 = 1
                """);
    }

    private static void untilTheDayThatIsMoreThan20() {
        Calls.play("19: more than 20, where days lead just to 20, and where they do not", """
                bowl 100 = 0
                cast 0 1 1 = 0
                seed 0 15 = 15
                cast 0 1 1 = 1
                # 10 a day: 10, 20, 30; 7 a day: 7, 14, 21
                until 0 24 = 3
                until 1 24 = 3
                until 0 29 = 2
                pass 24 1 = 0
                until 0 24 = 2
                until 1 24 = 2
                # a day of 10 more leads to 20, of 12 more to 22
                until 0 25 = 1
                pass 24 1 = 0
                until 0 24 = 1
                until 1 24 = 1
                """);
    }

    private static void untilIsWhatDaysTell() {
        for (int seeds = 1; seeds <= 50; seeds++) {
            for (int room = 10; room <= 40; room++) {
                ChocolateMoulds moulds = slabOfTemper(2 * seeds);
                int until = moulds.until(0, room);
                int days = 0;
                while (days < 60 && moulds.about(0, 3) <= 20) {
                    moulds.pass(room, 1);
                    days++;
                }
                due("19: temper " + 2 * seeds + " in a room of " + room, until, moulds.about(0, 3) > 20 ? days : -1);
            }
        }
    }

    private static ChocolateMoulds slabOfTemper(int temper) {
        ChocolateMoulds moulds = new ChocolateMoulds();
        moulds.bowl(100);
        for (int seeds = temper / 2; seeds > 0; seeds -= 30) {
            moulds.seed(0, seeds < 30 ? seeds : 30);
        }
        moulds.cast(0, 1, 1);
        return moulds;
    }

    private static void due(String what, int got, int want) {
        Calls.due(what, String.valueOf(got), String.valueOf(want));
    }
}
