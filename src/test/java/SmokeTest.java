final class SmokeTest {
    public static void main(String[] args) {
        Check.due("opsLeft()", new GraphScheduler(2, 1).opsLeft(), 128);
        Check.finish();
    }
}
