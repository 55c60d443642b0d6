final class SmokeTest {
    public static void main(String[] args) {
        if (Village.of("left a 1;right b 2;").count(0) != 1) {
            System.exit(1);
        }
    }
}
