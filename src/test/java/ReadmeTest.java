/** The example of README.md: every call answers what is written beside it there. */
public final class ReadmeTest extends Scenes {
    private static void example() {
        MarkovCloner archive = new MarkovCloner(1, 32, 4, 4);
        due("put(0b1011, 4)", archive.put(0b1011, 4), OK);
        due("seal(0)", archive.seal(0), OK);
        due("open(0)", archive.open(0), OK);
        due("take(3)", archive.take(3), 5);
        due("take(2)", archive.take(2), SHORT);
        due("recode(0)", archive.recode(0), OK);
        due("put(0, 1)", archive.put(0, 1), OK);
        due("seal(1)", archive.seal(1), OK);
        due("lengthOf(1)", archive.lengthOf(1), 5);
        due("compare(0, 1)", archive.compare(0, 1), MarkovCloner.LESS);
        due("position(READER)", archive.position(R), 3);
        due("count(READER, 0, 1)", archive.count(R, 0, 1), 7);
        due("drop(0)", archive.drop(0), OK);
        due("readerSlot()", archive.readerSlot(), NONE);
    }

    public static void main(String[] args) {
        example();
        Check.finish();
    }
}
