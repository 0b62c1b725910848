import com.sun.management.ThreadMXBean;
import java.lang.management.ManagementFactory;

/** The dearest calls, 512 times over, stay far below the room that a run has. */
public final class SpaceTest {
  // The run's room is 7.3 million fields and elements; a thirtieth of it, taken as bytes.
  private static final long MOST_BYTES = 2_000_000;
  private static final int CALLS = 500;

  private SpaceTest() {
  }

  public static void main(String[] args) {
    Checks checks = new Checks();
    checks.about("the room of a run");
    Brookmill b = wide();
    ThreadMXBean bean = (ThreadMXBean) ManagementFactory.getThreadMXBean();
    long begun = bean.getCurrentThreadAllocatedBytes();
    long sum = 0;
    for (int i = 0; i < CALLS; i++) {
      sum += b.digest();
    }
    long taken = bean.getCurrentThreadAllocatedBytes() - begun;
    checks.same(true, taken < MOST_BYTES / 10, "digest() took " + taken + " bytes, that is, room");

    b = wide();
    begun = bean.getCurrentThreadAllocatedBytes();
    for (int i = 0; i < CALLS; i++) {
      sum += b.partsText().length();
    }
    taken = bean.getCurrentThreadAllocatedBytes() - begun;
    checks.same(true, taken < MOST_BYTES, "partsText() took " + taken + " bytes, that is, room");
    checks.same(true, sum != 0, "a sum that keeps the calls");
    checks.end();
  }

  private static Brookmill wide() {
    Brookmill b = new Brookmill();
    b.places(9);
    b.strew(7);
    b.fill(2);
    return b;
  }
}
