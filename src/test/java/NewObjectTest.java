/** Promise 1: a new object has no MATTER and an empty tape. */
public final class NewObjectTest {
    public static void main(String[] args) {
        LongTable x = new LongTable();
        if (x.count(0) != 0 || x.count(1) != 0 || x.count(2) != 0) {
            System.out.println("a new object is not empty");
            System.exit(1);
        }
    }
}
