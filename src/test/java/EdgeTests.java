import java.util.TreeMap;

/** Each sentence of the document that names an edge has a test of its own, named after its promise. */
public final class EdgeTests {
    private static final Class<?>[] ALL = {
        TextEdges.class, VillageEdges.class, ActEdges.class, LawEdges.class, JudgeEdges.class, ChanceEdges.class,
        SlotEdges.class, ChangeEdges.class, LongEdges.class, LongDebtEdges.class
    };
    private static final int PROMISES = 31;

    public static void main(String[] args) throws IllegalAccessException {
        TreeMap<Integer, Integer> ran = new TreeMap<>();
        for (Class<?> tests : ALL) {
            Edge.run(tests, ran);
        }
        int bare = 0;
        for (int promise = 1; promise <= PROMISES; promise++) {
            if (!ran.containsKey(promise)) {
                bare++;
                System.out.println("promise " + promise + " has no test of its edges");
            }
        }
        int all = ran.values().stream().mapToInt(Integer::intValue).sum();
        System.out.println(all + " edges, " + Edge.wrong() + " answers that are not as due");
        if (Edge.wrong() + bare != 0) {
            System.exit(1);
        }
    }
}
