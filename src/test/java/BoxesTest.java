/** Promises 10, 11 and 20: box, fill, advise. */
public final class BoxesTest {
    public static void main(String[] args) {
        box();
        fill();
        advise();
        Calls.end();
    }

    private static void box() {
        Calls.play("10 box", """
                box 0 50 = throws.IllegalArgumentException
                box 37 50 = throws.IllegalArgumentException
                box 5 -1 = throws.IllegalArgumentException
                box 5 101 = throws.IllegalArgumentException
                box -2147483648 2147483647 = throws.IllegalArgumentException
                box 1 0 = 0
                box 36 100 = 1
                order 0 0 = 1
                order 0 1 = 0
                order 1 0 = 36
                order 1 1 = 100
                order 1 2 = 0
                box 5 5 = 2
                box 5 5 = 3
                box 5 5 = 4
                box 5 5 = 5
                box 5 5 = throws.IllegalStateException
                box 0 5 = throws.IllegalArgumentException
                count 3 = 6
                """);
    }

    private static void fill() {
        Calls.play("11 fill: by squares, temper and bloom", """
                fill = 0
                bowl 1000 = 0
                seed 0 25 = 25
                cast 0 2 3 = 0
                cast 0 3 1 = 1
                cast 0 1 6 = 2
                cast 0 1 3 = 3
                # only the first that fits leaves the row, also for equal boxes
                box 6 51 = 0
                box 6 50 = 1
                box 4 0 = 2
                box 3 0 = 3
                box 3 0 = 4
                pass 24 4 = 0
                polish 3 = 5
                fill = 3
                count 2 = 1
                about 0 0 = 1
                about 0 1 = 6
                order 0 2 = 0
                order 1 2 = 1
                order 1 3 = 50
                order 1 4 = 20
                order 2 2 = 0
                order 3 4 = 20
                order 4 4 = 5
                # a filled box gets no other slab
                box 6 0 = 5
                fill = 1
                fill = 0
                count 2 = 0
                count 4 = 4
                order 0 2 = 0
                """);
        Calls.play("11 fill: a bloom of 21 is too much, filled boxes keep what they got", """
                bowl 1000 = 0
                seed 0 15 = 15
                cast 0 1 1 = 0
                box 1 30 = 0
                # temper 30: 7 a day
                pass 24 3 = 1
                fill = 0
                polish 0 = 6
                pass 10 2 = 0
                about 0 3 = 20
                fill = 1
                pass 40 60 = 0
                order 0 4 = 20
                order 0 3 = 30
                """);
        Calls.play("11 fill: an earlier box may take what a later one needs", """
                bowl 1000 = 0
                seed 0 20 = 20
                cast 0 2 2 = 0
                seed 0 20 = 40
                cast 0 2 2 = 1
                box 4 0 = 0
                box 4 80 = 1
                box 4 41 = 2
                fill = 2
                order 0 3 = 40
                order 1 3 = 80
                order 2 2 = 0
                """);
    }

    private static void advise() {
        Calls.play("20 advise", """
                advise = -1
                bowl 1000 = 0
                cast 0 1 1 = 0
                cast 0 1 2 = 1
                cast 0 1 2 = 2
                cast 0 1 2 = 3
                advise = -1
                box 2 0 = 0
                # all slabs fit as they are
                advise = -1
                pass 24 3 = 4
                # bloom 30, or 15 behind a polish: slab 0 fits no box, 1 to 3 fit the box
                advise = 1
                about 1 3 = 30
                count 4 = 0
                order 0 2 = 0
                polish 2 = 15
                # the box can be filled already
                advise = -1
                box 2 0 = 1
                advise = 1
                fill = 1
                advise = 1
                pass 24 2 = 3
                # bloom 50, one polish is not enough
                advise = -1
                polish 2 = 35
                advise = 2
                """);
        Calls.play("20 advise: the most boxes behind fill(), not the most that fit", """
                bowl 1000 = 0
                cast 0 1 1 = 0
                seed 0 30 = 30
                cast 0 1 1 = 1
                box 1 0 = 0
                box 1 50 = 1
                pass 34 1 = 2
                # tempers 0 and 60, blooms 30 and 24: polished alone, each would fill one box
                advise = 0
                polish 1 = 9
                # slab 1 is taken by box 0, so polishing slab 0 frees it for box 1
                advise = 0
                polish 0 = 15
                advise = -1
                fill = 2
                """);
    }
}
