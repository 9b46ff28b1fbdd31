/** Promises 6 to 9 and 12: cast, polish, split, melt, pass. */
public final class SlabsTest {
    public static void main(String[] args) {
        cast();
        polish();
        split();
        melt();
        pass();
        Calls.end();
    }

    private static void cast() {
        Calls.play("6 cast", """
                bowl 430 = 0
                seed 0 20 = 20
                cast 0 6 6 = 0
                told 0 0 = 70
                about 0 0 = 6
                about 0 1 = 6
                about 0 2 = 40
                about 0 3 = 0
                about 0 4 = 0
                about 0 5 = 36
                # the temper is that of the casting, not a later one
                seed 0 20 = 40
                about 0 2 = 40
                cast 0 4 2 = throws.IllegalStateException
                cast 0 1 6 = 1
                about 1 0 = 1
                about 1 1 = 6
                about 1 2 = 80
                told 0 0 = 10
                cast 0 1 1 = 2
                told 0 0 = 0
                told 0 5 = 40
                cast 0 1 1 = throws.IllegalStateException
                count 2 = 3
                """);
        Calls.play("6 cast: wrong calls", """
                cast 0 1 1 = throws.IndexOutOfBoundsException
                bowl 2000 = 0
                cast 1 0 0 = throws.IndexOutOfBoundsException
                cast -1 1 1 = throws.IndexOutOfBoundsException
                cast 0 0 1 = throws.IllegalArgumentException
                cast 0 7 1 = throws.IllegalArgumentException
                cast 0 1 0 = throws.IllegalArgumentException
                cast 0 1 7 = throws.IllegalArgumentException
                cast 0 -2147483648 2147483647 = throws.IllegalArgumentException
                cast 0 1 1 = 0
                cast 0 1 1 = 1
                cast 0 1 1 = 2
                cast 0 1 1 = 3
                cast 0 1 1 = 4
                cast 0 1 1 = 5
                cast 0 1 1 = 6
                cast 0 1 1 = 7
                cast 0 1 1 = throws.IllegalStateException
                cast 0 7 1 = throws.IllegalArgumentException
                told 0 0 = 1920
                count 2 = 8
                """);
    }

    private static void polish() {
        Calls.play("7 polish", """
                polish 0 = throws.IndexOutOfBoundsException
                bowl 100 = 0
                cast 0 1 1 = 0
                cast 0 1 1 = 1
                polish 0 = 0
                pass 24 4 = 2
                polish 0 = 25
                polish 0 = 10
                polish 0 = 0
                polish 0 = 0
                about 0 3 = 0
                about 1 3 = 40
                polish 2 = throws.IndexOutOfBoundsException
                polish -1 = throws.IndexOutOfBoundsException
                pass 24 1 = 1
                polish 0 = 0
                """);
    }

    private static void split() {
        Calls.play("8 split", """
                bowl 1000 = 0
                seed 0 10 = 10
                cast 0 5 4 = 0
                seed 0 10 = 20
                cast 0 1 2 = 1
                pass 24 2 = 0
                split 0 2 false = 2
                about 0 0 = 2
                about 0 1 = 4
                about 2 0 = 3
                about 2 1 = 4
                about 2 2 = 20
                about 2 3 = 16
                about 2 4 = 2
                about 0 2 = 20
                about 0 3 = 16
                about 0 4 = 2
                # the slab behind it stays where it was
                about 1 2 = 40
                split 2 1 true = 3
                about 2 0 = 3
                about 2 1 = 1
                about 3 0 = 3
                about 3 1 = 3
                count 6 = 22
                told 0 0 = 780
                """);
        Calls.play("8 split: wrong calls", """
                split 0 1 true = throws.IndexOutOfBoundsException
                bowl 1000 = 0
                cast 0 3 2 = 0
                split 0 0 true = throws.IndexOutOfBoundsException
                split 0 0 false = throws.IndexOutOfBoundsException
                split 0 -1 false = throws.IndexOutOfBoundsException
                split 0 2 true = throws.IndexOutOfBoundsException
                split 0 3 false = throws.IndexOutOfBoundsException
                split 0 2147483647 false = throws.IndexOutOfBoundsException
                split 1 1 true = throws.IndexOutOfBoundsException
                split -1 1 true = throws.IndexOutOfBoundsException
                cast 0 1 1 = 1
                cast 0 1 1 = 2
                cast 0 1 1 = 3
                cast 0 1 1 = 4
                cast 0 1 1 = 5
                cast 0 1 1 = 6
                split 0 2 false = 7
                split 0 1 true = throws.IllegalStateException
                split 0 2 false = throws.IndexOutOfBoundsException
                split 8 1 false = throws.IndexOutOfBoundsException
                about 0 0 = 2
                about 7 0 = 1
                about 7 1 = 2
                """);
    }

    private static void melt() {
        Calls.play("9 melt", """
                bowl 2000 = 0
                bowl 1900 = 1
                seed 1 10 = 10
                warm 1 15 1 = 12
                cast 0 1 1 = 0
                cast 0 2 5 = 1
                cast 0 1 3 = 2
                cast 0 1 4 = 3
                melt 1 1 = 2000
                told 1 0 = 2000
                # crystals and warmth of the bowl stay
                told 1 1 = 8
                told 1 5 = 10
                told 1 6 = 15
                # slabs behind it move up
                count 2 = 3
                about 0 1 = 1
                about 1 1 = 3
                about 2 1 = 4
                about 3 1 = throws.IndexOutOfBoundsException
                melt 0 1 = throws.IllegalArgumentException
                melt 3 0 = throws.IndexOutOfBoundsException
                melt -1 0 = throws.IndexOutOfBoundsException
                melt 0 2 = throws.IndexOutOfBoundsException
                melt 0 -1 = throws.IndexOutOfBoundsException
                melt 3 1 = throws.IndexOutOfBoundsException
                melt 2 0 = 1860
                melt 0 0 = 1870
                melt 0 0 = 1900
                count 2 = 0
                melt 0 0 = throws.IndexOutOfBoundsException
                cast 0 1 1 = 0
                """);
    }

    private static void pass() {
        Calls.play("12 pass: what blooms", """
                bowl 500 = 0
                cast 0 1 1 = 0
                seed 0 4 = 4
                warm 0 24 1 = 16
                cast 0 1 2 = 1
                seed 0 30 = 34
                seed 0 30 = 64
                cast 0 1 3 = 2
                # tempers 0, 16 and 100: 10, 8 and 0 a day
                pass 24 1 = 0
                about 0 3 = 10
                about 1 3 = 8
                about 2 3 = 0
                about 0 4 = 1
                pass 10 1 = 0
                about 0 3 = 20
                pass 25 1 = 2
                about 0 3 = 32
                about 1 3 = 26
                about 2 3 = 2
                pass 40 1 = 3
                about 0 3 = 74
                about 1 3 = 66
                about 2 3 = 34
                pass 40 60 = 3
                about 0 3 = 100
                about 2 3 = 100
                about 2 4 = 64
                count 0 = 64
                # bowls stay as they are
                told 0 0 = 440
                told 0 4 = 8
                told 0 5 = 64
                told 0 6 = 24
                """);
        Calls.play("12 pass: wrong calls", """
                pass 9 1 = throws.IllegalArgumentException
                pass 41 1 = throws.IllegalArgumentException
                pass 20 0 = throws.IllegalArgumentException
                pass 20 61 = throws.IllegalArgumentException
                pass 20 -2147483648 = throws.IllegalArgumentException
                pass 2147483647 1 = throws.IllegalArgumentException
                count 0 = 0
                pass 10 60 = 0
                pass 40 1 = 0
                count 0 = 61
                """);
    }
}
