/** The example in README.md: the same lines, and the answers that its comments tell. */
public final class ReadmeTest {
    public static void main(String[] args) {
        ChocolateMoulds moulds = new ChocolateMoulds();
        int bowl = moulds.bowl(1000);
        int temper = moulds.warm(bowl, 27, 3);
        int better = moulds.would(bowl, 30, 1);
        int slab = moulds.cast(bowl, 4, 3);
        int box = moulds.box(12, 30);
        int bloomed = moulds.pass(20, 3);
        int advised = moulds.advise();
        int bloom = moulds.polish(slab);
        int filled = moulds.fill();
        int left = moulds.told(bowl, 0);
        due("bowl", bowl, 0);
        due("temper", temper, 30);
        due("better", better, 46);
        due("slab", slab, 0);
        due("box", box, 0);
        due("bloomed", bloomed, 1);
        due("advised", advised, 0);
        due("bloom", bloom, 6);
        due("filled", filled, 1);
        due("left", left, 880);
        Calls.end();
    }

    private static void due(String name, int got, int want) {
        Calls.due(name, String.valueOf(got), String.valueOf(want));
    }
}
