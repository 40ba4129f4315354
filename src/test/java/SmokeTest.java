public final class SmokeTest {
    public static void main(String[] args) {
        CatWitness x = new CatWitness();
        if (x.status() != 0 || x.bottom() != 1) {
            System.exit(1);
        }
    }
}
