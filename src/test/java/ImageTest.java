/** Promises 29 and 30: images keep all that is told. */
final class ImageTest {
    public static void main(String[] args) {
        whichThereAre();
        allThatIsTold();
        tapeAndFault();
        imagesAreApart();
        Check.finish();
    }

    private static void whichThereAre() {
        GrainInn x = new GrainInn();
        Check.due("image(3)", x.image(3), false);
        Check.due("image(-1)", x.image(-1), false);
        Check.due("image(most)", x.image(Integer.MAX_VALUE), false);
        Check.due("again(0)", x.again(0), false);
        Check.due("image(2)", x.image(2), true);
        Check.due("again(0) still", x.again(0), false);
        Check.due("again(1)", x.again(1), false);
        Check.due("again(2)", x.again(2), true);
        Check.due("again(3)", x.again(3), false);
        Check.due("again(-1)", x.again(-1), false);
        Check.due("again(least)", x.again(Integer.MIN_VALUE), false);
        Check.due("image(0)", x.image(0), true);
        Check.due("image(1)", x.image(1), true);
    }

    private static void allThatIsTold() {
        GrainInn x = Check.with(StateTest.INN, StateTest.EVENINGS);
        Check.take(x, 2, "hear 0 1;");
        Check.take(x, 3, "silence;heard 1;");
        Check.due("image", x.image(0), true);
        Check.take(x, 0, 0, "table 8 6 9;table 8 6 9;table 8 6 9;guests 2;quarrel 0 1;love 0 1;");
        Check.take(x, 0, "guests 8;");
        Check.take(x, 1, 0, "night;");
        Check.take(x, 1, "");
        Check.take(x, 2, 0, "");
        Check.take(x, 2, "");
        Check.take(x, 3, 0, "");
        Check.take(x, 3, "");
        Check.due("again", x.again(0), true);
        for (int sort = 0; sort < 4; sort++) {
            Check.due("count as it was", x.count(sort), 1);
        }
        Check.due("no inn 1", x.inn(1, 1), -1);
        Check.due("tables", x.inn(0, 0), 2);
        Check.due("guests", x.inn(0, 1), 4);
        Check.due("seats", x.inn(0, 10), 3);
        Check.due("keeps", x.inn(0, 20), 2);
        Check.due("price", x.inn(0, 30), 2);
        Check.due("quarrels", x.inn(0, 41), 1);
        Check.due("loves", x.inn(0, 51), 8);
        Check.due("deeds", x.deed(0, -1, 0), 10);
        Check.due("a deed", x.deed(0, 4, 2), 10);
        Check.due("wishes", x.wish(0, -1, 0), 1);
        Check.due("rows", x.heard(0, -1), 2);
        Check.due("a row", x.heard(0, 1), 1);
        Check.due("strife", x.state(0, 0, 10, 1), 2);
    }

    private static void tapeAndFault() {
        GrainInn x = new GrainInn();
        Check.take(x, 0, "guests 9;");
        Check.feed(x, "guests 3;");
        Check.due("image", x.image(1), true);
        Check.due("text", x.text(0, -1), 0);
        Check.due("no fault", x.fault(0), 0);
        Check.due("again", x.again(1), true);
        Check.due("fault as it was", x.fault(0), 2);
        Check.due("place as it was", x.fault(1), 7);
        Check.due("no inn as it was", x.count(0), 0);
        Check.due("tape as it was", x.end(10), -1);
        Check.due("tape as it was", x.end(9), 9);
        Check.due("its text", x.text(0, -1), 0);
        Check.due("its guests", x.inn(0, 1), 3);
    }

    private static void imagesAreApart() {
        GrainInn x = new GrainInn();
        x.image(0);
        Check.take(x, 0, "guests 2;");
        x.image(1);
        Check.take(x, 0, 0, "guests 3;");
        x.image(2);
        Check.due("again(1)", x.again(1), true);
        Check.due("guests of 1", x.inn(0, 1), 2);
        Check.due("again(2)", x.again(2), true);
        Check.due("guests of 2", x.inn(0, 1), 3);
        Check.take(x, 0, 0, "guests 5;");
        Check.due("again(2) again", x.again(2), true);
        Check.due("an image stays", x.inn(0, 1), 3);
        Check.due("again(0)", x.again(0), true);
        Check.due("nothing was told", x.count(0), 0);
        Check.due("image(2) anew", x.image(2), true);
        Check.due("again(1)", x.again(1), true);
        Check.due("again(2)", x.again(2), true);
        Check.due("a newer image strikes", x.count(0), 0);
    }
}
