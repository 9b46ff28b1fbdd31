/**
 * "A method that throws an exception changes nothing. If several exceptions apply, the one that is named
 * first is thrown." Calls.play compares the digest around each call that throws.
 */
public final class RefusalsTest {
    /** 5 bowls, 8 slabs and 6 boxes, so that IllegalStateException applies wherever it can. */
    private static final String EVERYTHING_FULL = """
            bowl 2000 = 0
            bowl 0 = 1
            bowl 0 = 2
            bowl 2000 = 3
            bowl 9 = 4
            cast 0 2 2 = 0
            cast 0 1 1 = 1
            cast 0 1 1 = 2
            cast 0 1 1 = 3
            cast 0 1 1 = 4
            cast 0 1 1 = 5
            cast 0 1 1 = 6
            cast 0 1 1 = 7
            box 36 0 = 0
            box 36 0 = 1
            box 36 0 = 2
            box 36 0 = 3
            box 36 0 = 4
            box 36 0 = 5
            """;

    public static void main(String[] args) {
        bowl();
        warm();
        seed();
        pour();
        cast();
        split();
        melt();
        box();
        wouldAndBest();
        until();
        aRefusedCallIsAsIfItHadNotBeen();
        Calls.end();
    }

    private static void bowl() {
        Calls.play("2: grams before 5 bowls", EVERYTHING_FULL + """
                bowl -1 = throws.IllegalArgumentException
                bowl 2001 = throws.IllegalArgumentException
                bowl 0 = throws.IllegalStateException
                """);
    }

    private static void warm() {
        Calls.play("3: no such bowl before warmth and turns", EVERYTHING_FULL + """
                warm 5 14 1 = throws.IndexOutOfBoundsException
                warm 5 20 0 = throws.IndexOutOfBoundsException
                warm -1 51 41 = throws.IndexOutOfBoundsException
                warm 4 14 41 = throws.IllegalArgumentException
                """);
    }

    private static void seed() {
        Calls.play("4: no such bowl before many", EVERYTHING_FULL + """
                seed 5 0 = throws.IndexOutOfBoundsException
                seed -1 31 = throws.IndexOutOfBoundsException
                seed 4 31 = throws.IllegalArgumentException
                """);
    }

    private static void pour() {
        Calls.play("5: no such bowl before the same bowl", EVERYTHING_FULL + """
                pour 5 5 = throws.IndexOutOfBoundsException
                pour -1 -1 = throws.IndexOutOfBoundsException
                pour 5 1 = throws.IndexOutOfBoundsException
                pour 1 5 = throws.IndexOutOfBoundsException
                pour 3 5 = throws.IndexOutOfBoundsException
                pour 5 3 = throws.IndexOutOfBoundsException
                pour 1 1 = throws.IllegalArgumentException
                pour 1 2 = throws.IllegalArgumentException
                pour 4 3 = throws.IllegalArgumentException
                """);
    }

    private static void cast() {
        Calls.play("6: no such bowl before w and h, both before 8 slabs", EVERYTHING_FULL + """
                cast 5 0 1 = throws.IndexOutOfBoundsException
                cast 5 1 7 = throws.IndexOutOfBoundsException
                cast -1 1 1 = throws.IndexOutOfBoundsException
                cast 0 0 1 = throws.IllegalArgumentException
                cast 0 1 0 = throws.IllegalArgumentException
                cast 0 7 1 = throws.IllegalArgumentException
                cast 0 1 7 = throws.IllegalArgumentException
                cast 0 1 1 = throws.IllegalStateException
                cast 1 1 1 = throws.IllegalStateException
                """);
        Calls.play("6: no such bowl before w and h, both before the grams", """
                bowl 9 = 0
                cast 1 7 7 = throws.IndexOutOfBoundsException
                cast 0 7 1 = throws.IllegalArgumentException
                cast 0 1 7 = throws.IllegalArgumentException
                cast 0 0 1 = throws.IllegalArgumentException
                cast 0 1 0 = throws.IllegalArgumentException
                cast 0 1 1 = throws.IllegalStateException
                """);
    }

    private static void split() {
        Calls.play("8: no such slab or groove before 8 slabs", EVERYTHING_FULL + """
                split 8 1 true = throws.IndexOutOfBoundsException
                split -1 1 false = throws.IndexOutOfBoundsException
                split 0 0 true = throws.IndexOutOfBoundsException
                split 0 0 false = throws.IndexOutOfBoundsException
                split 0 2 true = throws.IndexOutOfBoundsException
                split 0 2 false = throws.IndexOutOfBoundsException
                split 1 1 true = throws.IndexOutOfBoundsException
                split 0 1 true = throws.IllegalStateException
                split 0 1 false = throws.IllegalStateException
                """);
    }

    private static void melt() {
        Calls.play("9: no such slab or bowl before 2000 grams", EVERYTHING_FULL + """
                melt 8 3 = throws.IndexOutOfBoundsException
                melt -1 3 = throws.IndexOutOfBoundsException
                melt 0 5 = throws.IndexOutOfBoundsException
                melt 8 5 = throws.IndexOutOfBoundsException
                melt 0 3 = throws.IllegalArgumentException
                """);
    }

    private static void box() {
        Calls.play("10: squares and temper before 6 boxes", EVERYTHING_FULL + """
                box 0 0 = throws.IllegalArgumentException
                box 37 0 = throws.IllegalArgumentException
                box 1 -1 = throws.IllegalArgumentException
                box 1 101 = throws.IllegalArgumentException
                box 1 0 = throws.IllegalStateException
                """);
    }

    private static void wouldAndBest() {
        Calls.play("17, 18: no such bowl, or what, before warmth and turns", EVERYTHING_FULL + """
                would 5 14 1 = throws.IndexOutOfBoundsException
                would 5 20 41 = throws.IndexOutOfBoundsException
                would -1 51 0 = throws.IndexOutOfBoundsException
                would 0 51 0 = throws.IllegalArgumentException
                best 5 0 0 = throws.IndexOutOfBoundsException
                best -1 11 0 = throws.IndexOutOfBoundsException
                best 0 0 3 = throws.IndexOutOfBoundsException
                best 0 11 -1 = throws.IndexOutOfBoundsException
                best 5 0 3 = throws.IndexOutOfBoundsException
                best 0 11 2 = throws.IllegalArgumentException
                """);
    }

    private static void until() {
        Calls.play("19: no such slab before room", EVERYTHING_FULL + """
                until 8 9 = throws.IndexOutOfBoundsException
                until -1 41 = throws.IndexOutOfBoundsException
                until 7 41 = throws.IllegalArgumentException
                """);
    }

    /** What the digest can't show would show in what comes later. */
    private static void aRefusedCallIsAsIfItHadNotBeen() {
        Calls.play("A method that throws an exception changes nothing", """
                bowl 100 = 0
                bowl 2001 = throws.IllegalArgumentException
                bowl 50 = 1
                warm 0 30 41 = throws.IllegalArgumentException
                warm 0 51 1 = throws.IllegalArgumentException
                seed 0 31 = throws.IllegalArgumentException
                warm 0 30 1 = 16
                pour 0 0 = throws.IllegalArgumentException
                pour 0 2 = throws.IndexOutOfBoundsException
                cast 0 6 6 = throws.IllegalStateException
                cast 0 1 7 = throws.IllegalArgumentException
                cast 0 2 2 = 0
                told 0 0 = 60
                split 0 2 true = throws.IndexOutOfBoundsException
                split 0 1 true = 1
                melt 0 2 = throws.IndexOutOfBoundsException
                melt 2 0 = throws.IndexOutOfBoundsException
                melt 1 1 = 70
                box 2 101 = throws.IllegalArgumentException
                box 2 16 = 0
                pass 20 61 = throws.IllegalArgumentException
                pass 41 60 = throws.IllegalArgumentException
                fill = 1
                order 0 4 = 0
                count 0 = 0
                """);
    }
}
