import java.lang.reflect.InvocationTargetException;
import java.lang.reflect.Method;
import java.lang.reflect.Modifier;
import java.util.ArrayList;
import java.util.Comparator;
import java.util.List;

/** Rule 7 of the language: no call throws, for any arguments in any state; behind the 512th call, too. */
public final class AnyCallTest {
  private static final int OBJECTS = 120;
  private static final int CALLS = 1500;
  private static final int[] FAR = {Integer.MIN_VALUE, Integer.MIN_VALUE + 1, Integer.MAX_VALUE, Integer.MAX_VALUE - 1,
      -1, -2, 7, 8, 9, 10, 12, 13, 20, 21, 31, 32, 60, 61, 63, 64, 96, 97, 99, 100, 255, 256, 65536, 1 << 30};
  private static final String SIGNS = "sfvjel=;nro01234567abcz";
  private static final String[] LINES = {"ss=a;", "sf=bcdfghjkl;", "sv=aeiou;", "sj=z;", "se=aa;", "sl=z;", "n0=a;", "r;", "o;"};

  private final StopsByLetters x = new StopsByLetters();
  private final List<Method> face;
  private long seed;

  private AnyCallTest(List<Method> face, int number) {
    this.face = face;
    seed = number * 0x9E3779B97F4A7C15L + 99;
  }

  public static void main(String[] args) throws Exception {
    List<Method> face = new ArrayList<>();
    for (Method m : StopsByLetters.class.getDeclaredMethods()) {
      if (Modifier.isPublic(m.getModifiers())) face.add(m);
    }
    // The order in which the machine tells them is free, and the same calls must come each time.
    face.sort(Comparator.comparing(Method::getName));
    for (int number = 0; number < OBJECTS; number++) new AnyCallTest(face, number).go();
    Due.end();
  }

  private int below(int bound) {
    seed = seed * 6364136223846793005L + 1442695040888963407L;
    return (int) ((seed >>> 33) % bound);
  }

  private int any() {
    switch (below(8)) {
      case 0: return FAR[below(FAR.length)];
      case 1: return (int) (seed >>> 16);
      case 2: return SIGNS.charAt(below(SIGNS.length()));
      default: return below(9);
    }
  }

  private void go() throws Exception {
    for (int call = 0; call < CALLS; call++) {
      if (below(40) == 0) Due.tell(x, LINES[below(LINES.length)]);
      askAny(face.get(below(face.size())));
    }
  }

  private void askAny(Method m) throws Exception {
    Object[] numbers = new Object[m.getParameterCount()];
    StringBuilder call = new StringBuilder(m.getName());
    for (int i = 0; i < numbers.length; i++) {
      numbers[i] = any();
      call.append(' ').append(numbers[i]);
    }
    int thrown = 0;
    try {
      m.invoke(x, numbers);
    } catch (InvocationTargetException e) {
      thrown = 1;
      call.append(": ").append(e.getCause());
    }
    Due.due(call + " (1 it throws)", thrown, 0);
  }
}
