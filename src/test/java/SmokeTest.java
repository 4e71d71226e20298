public final class SmokeTest {
    public static void main(String[] args) {
        GripEstates x = Check.of("person age 40 grip 5");
        Check.due("people", 1, x.count(0));
        Check.end();
    }
}
