/** Each sentence of the document that names a boundary case, by the test that holds it. */
public final class BoundsTest {
    public static void main(String[] args) {
        BoundsOfPeople.hold();
        BoundsOfKinds.hold();
        BoundsOfTexts.hold();
        BoundsOfPost.hold();
        BoundsOfBest.hold();
        BoundsOfTold.hold();
        BoundsOfHost.hold();
        Said.allIsHeld();
        Due.end();
    }
}
