/** Promises 17 to 19: would, best, until. */
public final class WouldBeTest {
    public static void main(String[] args) {
        would();
        best();
        until();
        Calls.end();
    }

    private static void would() {
        Calls.play("17 would", """
                would 0 30 1 = throws.IndexOutOfBoundsException
                bowl 10 = 0
                would 0 33 1 = 16
                would 0 33 3 = 60
                would 0 33 40 = 100
                would 0 24 1 = 8
                would 0 50 1 = 0
                # nothing is changed
                told 0 5 = 0
                told 0 6 = 20
                seed 0 20 = 20
                would 0 35 1 = 20
                would 0 15 1 = 32
                would 0 15 2 = 22
                warm 0 15 2 = 22
                would 0 14 1 = throws.IllegalArgumentException
                would 0 51 1 = throws.IllegalArgumentException
                would 0 20 0 = throws.IllegalArgumentException
                would 0 20 41 = throws.IllegalArgumentException
                would 1 14 0 = throws.IndexOutOfBoundsException
                would -1 20 1 = throws.IndexOutOfBoundsException
                """);
    }

    private static void best() {
        Calls.play("18 best: the least of several", """
                best 0 1 0 = throws.IndexOutOfBoundsException
                bowl 10 = 0
                # 28 to 33 give 18 of the sort 5 in two turns
                best 0 1 0 = 28
                best 0 1 1 = 28
                best 0 1 2 = 36
                told 0 5 = 0
                told 0 6 = 20
                # from 100 of the sort 1, that melt at 24, 10 turns make 100 of the sort 4
                best 0 10 2 = 100
                best 0 10 0 = 15
                best 0 10 1 = 24
                seed 0 30 = 30
                best 0 1 2 = 100
                best 0 1 0 = 28
                best 0 1 1 = 28
                seed 0 30 = 60
                # 60 of the sort 5 are 100 at any warmth at which they are kept
                best 0 1 0 = 15
                best 0 1 1 = 15
                """);
        Calls.play("18 best: two warmths that differ", """
                bowl 10 = 0
                warm 0 20 3 = 0
                told 0 3 = 30
                # the sort 3 melts to 7 (or to 1), and there are 18 (or 45) of the sort 5
                best 0 1 0 = 28
                best 0 1 1 = 28
                best 0 1 2 = 29
                best 0 2 2 = 89
                warm 0 24 3 = 0
                told 0 3 = 30
                told 0 4 = 30
                # 31 melts the sort 4 too, so that 28 to 30 are the better ones
                best 0 1 0 = 28
                best 0 1 1 = 28
                best 0 1 2 = 59
                """);
        Calls.play("18 best: wrong calls", """
                bowl 10 = 0
                best 0 0 0 = throws.IllegalArgumentException
                best 0 11 0 = throws.IllegalArgumentException
                best 0 -2147483648 2 = throws.IllegalArgumentException
                best 0 1 3 = throws.IndexOutOfBoundsException
                best 0 1 -1 = throws.IndexOutOfBoundsException
                best 0 0 3 = throws.IndexOutOfBoundsException
                best 1 0 0 = throws.IndexOutOfBoundsException
                best -1 1 0 = throws.IndexOutOfBoundsException
                """);
    }

    private static void until() {
        Calls.play("19 until", """
                until 0 20 = throws.IndexOutOfBoundsException
                bowl 500 = 0
                cast 0 1 1 = 0
                seed 0 4 = 4
                warm 0 24 1 = 16
                cast 0 1 2 = 1
                seed 0 30 = 34
                cast 0 1 3 = 2
                seed 0 7 = 41
                cast 0 1 1 = 3
                seed 0 1 = 42
                told 0 7 = 92
                cast 0 1 1 = 4
                # tempers 0, 16, 76, 90 and 92
                until 0 24 = 3
                until 0 10 = 3
                until 0 25 = 2
                until 0 40 = 1
                until 1 24 = 3
                until 2 24 = 11
                until 3 24 = 21
                until 4 24 = -1
                until 4 10 = -1
                until 4 25 = 11
                until 4 34 = 2
                pass 24 2 = 0
                about 0 3 = 20
                until 0 24 = 1
                until 1 24 = 1
                # nothing is changed
                about 0 3 = 20
                about 0 4 = 2
                pass 24 1 = 2
                until 0 24 = 0
                until 1 24 = 0
                until 0 10 = 0
                until 0 9 = throws.IllegalArgumentException
                until 0 41 = throws.IllegalArgumentException
                until 5 9 = throws.IndexOutOfBoundsException
                until -1 20 = throws.IndexOutOfBoundsException
                """);
        Calls.play("19 until: -1 as long as it is not more than 20", """
                bowl 500 = 0
                seed 0 30 = 30
                seed 0 30 = 60
                cast 0 1 1 = 0
                pass 34 1 = 0
                about 0 3 = 20
                until 0 24 = -1
                until 0 25 = 1
                pass 25 1 = 1
                until 0 24 = 0
                """);
    }
}
