import java.util.ArrayList;
import java.util.List;

// What an object shows of its state by calls that change nothing.
public final class Seen {
  private static final int[] PLACES = {0, 1, 2, 3, 29, 58, 59, 60};

  private Seen() { }

  public static List<Long> of(AllPrograms x) {
    List<Long> all = new ArrayList<>();
    for (int i = -1; i < 12; i++) all.add((long) x.order(i));
    for (int i = 0; i < 5; i++) all.add((long) x.count(i));
    for (int i = 0; i < 12; i++) all.add((long) x.trace(i));
    for (int i = 0; i < 18; i++) all.add((long) x.ran(i));
    for (int i = 0; i < 5; i++) all.add((long) x.searched(i));
    for (int s = 0; s < 6; s++) for (int i : PLACES) all.add(x.element(s, i));
    for (int s = 0; s < 6; s++) all.add((long) x.taken(s, 0));
    for (int l = 0; l < 6; l++) for (int o = 0; o < 12; o++) all.add((long) x.of(l, 30 + o));
    for (int what = 0; what < 4; what++) all.add((long) x.votes(0, 9050, what, 0));
    return all;
  }
}
