// Promise 1: a new object.
public final class NewObjectTest {
  public static void main(String[] args) {
    AllPrograms x = new AllPrograms();
    if (x.count(0) != 0 || x.count(1) != 0 || x.of(0, 0) != -1) { System.out.println("new object answered otherwise, due is nothing"); System.exit(1); }
  }
}
