final class FirstTest {
    public static void main(String[] args) {
        Check.same("states of nothing", new Fencegate().states('s'), 1);
        Check.report("FirstTest");
    }
}
