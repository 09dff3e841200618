/** Where several tests begin. */
final class Scenes {
    static final String LAND = "t2 3 4;b0 20 10 2 1;b1 12 9 3 0;b0 9 5 4 3;w8,3;";

    private Scenes() {
    }

    /** Something of all that there is: COUNTIES 0 and 1, BARNS 0 to 2, IMAGE 0 alone, a FAULT, half a text. */
    static void busy(SwallowCount x) {
        Due.landIn(x, LAND);
        x.year(1);
        x.keep(0);
        Due.feed(x, "tx");
        x.land();
        x.year(1);
        x.ring(0, 3);
        x.open(2, false);
        x.mud(1, 1);
        x.seed(9);
        x.see(0, 7);
        x.rough(3, 20);
        x.write(0, 12);
        Due.feed(x, "t1");
    }
}
