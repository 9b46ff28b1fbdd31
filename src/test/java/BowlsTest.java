/** Promises 1 to 5: a new object, bowl, warm, seed, pour. */
public final class BowlsTest {
    public static void main(String[] args) {
        newObject();
        bowl();
        warm();
        seed();
        pour();
        Calls.end();
    }

    private static void newObject() {
        Calls.play("1 a new object", """
                count 0 = 0
                count 1 = 0
                count 2 = 0
                count 3 = 0
                count 4 = 0
                count 5 = 0
                count 6 = 0
                count 7 = 0
                told 0 0 = throws.IndexOutOfBoundsException
                about 0 0 = throws.IndexOutOfBoundsException
                order 0 0 = throws.IndexOutOfBoundsException
                """);
    }

    private static void bowl() {
        Calls.play("2 bowl", """
                bowl -1 = throws.IllegalArgumentException
                bowl 2001 = throws.IllegalArgumentException
                bowl -2147483648 = throws.IllegalArgumentException
                bowl 2147483647 = throws.IllegalArgumentException
                bowl 0 = 0
                bowl 2000 = 1
                bowl 7 = 2
                count 1 = 3
                told 0 0 = 0
                told 1 0 = 2000
                told 2 0 = 7
                # what a new bowl is like
                told 2 1 = 0
                told 2 2 = 0
                told 2 3 = 0
                told 2 4 = 0
                told 2 5 = 0
                told 2 6 = 20
                told 2 7 = 0
                bowl 7 = 3
                bowl 7 = 4
                bowl 7 = throws.IllegalStateException
                bowl 2001 = throws.IllegalArgumentException
                count 1 = 5
                """);
    }

    private static void warm() {
        Calls.play("3 warm: the sort that grows, 15 to 23", """
                bowl 10 = 0
                bowl 10 = 1
                bowl 10 = 2
                bowl 10 = 3
                bowl 10 = 4
                warm 0 15 1 = 0
                told 0 1 = 8
                told 0 6 = 15
                warm 1 16 1 = 0
                told 1 1 = 0
                told 1 2 = 8
                warm 2 19 1 = 0
                told 2 2 = 8
                warm 3 20 1 = 0
                told 3 2 = 0
                told 3 3 = 8
                warm 4 23 1 = 0
                told 4 3 = 8
                """);
        Calls.play("3 warm: the sort that grows, 24 to 34", """
                bowl 10 = 0
                bowl 10 = 1
                bowl 10 = 2
                bowl 10 = 3
                bowl 10 = 4
                warm 0 24 1 = 8
                told 0 4 = 8
                warm 1 27 1 = 8
                told 1 4 = 8
                warm 2 28 1 = 16
                told 2 5 = 8
                warm 3 33 1 = 16
                told 3 5 = 8
                warm 4 34 1 = 0
                told 4 5 = 0
                told 4 6 = 34
                """);
        Calls.play("3 warm: what melts", """
                bowl 10 = 0
                warm 0 15 1 = 0
                warm 0 18 1 = 0
                told 0 1 = 8
                told 0 2 = 8
                warm 0 19 1 = 0
                told 0 1 = 4
                told 0 2 = 18
                warm 0 22 1 = 0
                told 0 1 = 2
                told 0 2 = 18
                told 0 3 = 8
                warm 0 23 1 = 0
                told 0 1 = 1
                told 0 2 = 9
                told 0 3 = 18
                warm 0 26 1 = 0
                told 0 1 = 0
                told 0 2 = 4
                told 0 3 = 18
                told 0 4 = 8
                warm 0 27 1 = 7
                told 0 2 = 2
                told 0 3 = 9
                told 0 4 = 18
                warm 0 30 1 = 29
                told 0 2 = 1
                told 0 3 = 4
                told 0 4 = 18
                told 0 5 = 8
                warm 0 31 1 = 43
                told 0 2 = 0
                told 0 3 = 2
                told 0 4 = 9
                told 0 5 = 18
                warm 0 34 1 = 39
                told 0 3 = 1
                told 0 4 = 4
                told 0 5 = 18
                warm 0 35 1 = 20
                told 0 3 = 0
                told 0 4 = 2
                told 0 5 = 9
                warm 0 50 2 = 4
                told 0 4 = 0
                told 0 5 = 2
                told 0 6 = 50
                """);
        Calls.play("3 warm: the growth of many turns, and 100 at the most", """
                bowl 10 = 0
                bowl 10 = 1
                warm 0 33 1 = 16
                warm 0 33 1 = 36
                warm 0 33 1 = 60
                warm 0 33 1 = 90
                warm 0 33 1 = 100
                told 0 5 = 64
                warm 0 33 2 = 100
                told 0 5 = 100
                warm 0 33 40 = 100
                told 0 5 = 100
                seed 1 30 = 30
                seed 1 30 = 60
                seed 1 30 = 90
                warm 1 15 1 = 100
                told 1 1 = 8
                warm 1 15 1 = 100
                told 1 1 = 10
                warm 1 15 1 = 100
                told 1 1 = 10
                told 1 5 = 90
                """);
        Calls.play("3 warm: wrong calls", """
                warm 0 20 1 = throws.IndexOutOfBoundsException
                bowl 10 = 0
                warm 1 20 1 = throws.IndexOutOfBoundsException
                warm -1 20 1 = throws.IndexOutOfBoundsException
                warm 5 14 0 = throws.IndexOutOfBoundsException
                warm 2147483647 20 1 = throws.IndexOutOfBoundsException
                warm 0 14 1 = throws.IllegalArgumentException
                warm 0 51 1 = throws.IllegalArgumentException
                warm 0 20 0 = throws.IllegalArgumentException
                warm 0 20 41 = throws.IllegalArgumentException
                warm 0 -2147483648 2147483647 = throws.IllegalArgumentException
                told 0 6 = 20
                """);
    }

    private static void seed() {
        Calls.play("4 seed", """
                seed 0 1 = throws.IndexOutOfBoundsException
                bowl 10 = 0
                seed 0 1 = 1
                seed 0 30 = 31
                told 0 5 = 31
                told 0 7 = 62
                seed 0 0 = throws.IllegalArgumentException
                seed 0 31 = throws.IllegalArgumentException
                seed 0 -1 = throws.IllegalArgumentException
                seed 1 0 = throws.IndexOutOfBoundsException
                seed -1 5 = throws.IndexOutOfBoundsException
                # the other sorts count for the 100 as well
                warm 0 15 2 = 44
                told 0 1 = 18
                seed 0 30 = 61
                seed 0 30 = 82
                seed 0 30 = 82
                told 0 1 = 18
                told 0 6 = 15
                """);
    }

    private static void pour() {
        Calls.play("5 pour: each sort and the warmth by the grams", """
                bowl 300 = 0
                bowl 100 = 1
                warm 0 15 1 = 0
                seed 1 30 = 30
                pour 1 0 = 400
                told 0 0 = 400
                told 0 1 = 6
                told 0 5 = 7
                told 0 6 = 16
                told 0 7 = 8
                # the other one is empty, but for its warmth
                told 1 0 = 0
                told 1 5 = 0
                told 1 6 = 20
                told 1 7 = 0
                # an empty bowl changes nothing in this one, and loses its crystals
                seed 1 20 = 20
                pour 1 0 = 400
                told 0 1 = 6
                told 0 5 = 7
                told 1 5 = 0
                # into an empty bowl
                seed 1 20 = 20
                pour 0 1 = 400
                told 1 1 = 6
                told 1 5 = 7
                told 1 6 = 16
                told 0 0 = 0
                told 0 1 = 0
                told 0 6 = 16
                """);
        Calls.play("5 pour: the sorts in between", """
                bowl 200 = 0
                bowl 300 = 1
                warm 0 16 1 = 0
                warm 0 20 1 = 0
                warm 0 24 1 = 0
                told 0 2 = 4
                told 0 3 = 8
                told 0 4 = 8
                warm 1 27 2 = 18
                pour 0 1 = 500
                told 1 2 = 1
                told 1 3 = 3
                told 1 4 = 14
                told 1 6 = 25
                """);
        Calls.play("5 pour: wrong calls", """
                pour 0 0 = throws.IndexOutOfBoundsException
                bowl 1000 = 0
                bowl 1001 = 1
                bowl 0 = 2
                bowl 0 = 3
                bowl 1000 = 4
                pour 0 0 = throws.IllegalArgumentException
                pour 2 3 = throws.IllegalArgumentException
                pour 0 1 = throws.IllegalArgumentException
                pour 0 5 = throws.IndexOutOfBoundsException
                pour 5 0 = throws.IndexOutOfBoundsException
                pour -1 0 = throws.IndexOutOfBoundsException
                pour 0 -1 = throws.IndexOutOfBoundsException
                pour 0 4 = 2000
                told 4 0 = 2000
                """);
    }
}
