import com.sun.management.ThreadMXBean;
import java.lang.management.ManagementFactory;

/**
 * All calls of one run live in one room of 7.3 million fields and elements. Nothing is taken away there, so what counts
 * is all that is ever made: here in bytes, of which an element of the class has four or eight.
 */
final class RoomTest {
    private static final ThreadMXBean MEASURE = (ThreadMXBean) ManagementFactory.getThreadMXBean();
    private static final String[][] PROGRAMS = {
        {"k01 s00 s11", "k02 s10 s01 s10 l00", "x10 s20 s00 l00"},
        {"l00 s00 l00 s00", "l00 s00 l00 s00", "s00"},
        {"k01 s00 k02 s10 l12", "k03 s10 k04 s20 l10", "k05 s20 k06 l11"},
        {"l00 l10 s20 s11", "k02 s11 l12 s11 s00", "s10 l00 s20 s11"},
        {"i00 x10", "x00 i10", "s00"},
        {"k01 s00 l11", "k01 s10 l12", "k01 s20 l10"},
    };

    public static void main(String[] args) {
        // what the machine makes for itself when a class is first used is not the run's
        aRun(40);
        long before = made();
        int calls = aRun(512);
        long bytes = made() - before;
        System.out.println(calls + " calls made " + bytes + " bytes");
        Check.holds("a run has 512 calls", calls >= 512);
        Check.holds("a run makes less than 1.5 million bytes", bytes < 1500000);
        Check.report("RoomTest");
    }

    private static long made() {
        return MEASURE.getThreadAllocatedBytes(Thread.currentThread().getId());
    }

    /** One object: programs that change again and again, and the dearest calls for each. */
    private static int aRun(int calls) {
        Fencegate gate = new Fencegate();
        int done = 0;
        for (int round = 0; done < calls; round++) {
            String[] program = PROGRAMS[round % PROGRAMS.length];
            for (int core = 0; core < 3; core++) {
                gate.clear(core);
                done++;
                for (int at = 0; at < program[core].length(); at = program[core].indexOf(' ', at) + 1) {
                    String cores = program[core];
                    gate.add(core, cores.charAt(at), cores.charAt(at + 1) - '0', cores.charAt(at + 2) - '0', 0);
                    done++;
                    if (cores.indexOf(' ', at) < 0) {
                        break;
                    }
                }
            }
            done += dearCalls(gate);
        }
        return done;
    }

    private static int dearCalls(Fencegate gate) {
        int done = 0;
        for (int kind = 0; kind < 3; kind++) {
            char letter = "stp".charAt(kind);
            try {
                gate.fences(letter);
                gate.play(letter, 0);
                done += 2;
            } catch (UnsupportedOperationException e) {
                done++;
            }
            gate.isSame(letter);
            done++;
        }
        return done;
    }
}
