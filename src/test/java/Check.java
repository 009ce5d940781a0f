/** Compares answers with those that are due, and tells at the end how it went. */
final class Check {
    private final String name;
    private int done, wrong;

    Check(String name) {
        this.name = name;
    }

    void due(String call, long got, long want) {
        done++;
        if (got != want) {
            wrong++;
            System.out.println(name + ": " + call + " answered " + got + ", due is " + want);
        }
    }

    void end() {
        System.out.println(name + ": " + done + " answers, " + wrong + " not as due");
        if (wrong != 0) {
            System.exit(1);
        }
    }

    static void type(ChimeVan van, String text) {
        for (int place = 0; place < text.length(); place++) {
            van.letter(text.charAt(place));
        }
    }

    static ChimeVan of(String text) {
        ChimeVan van = new ChimeVan();
        type(van, text);
        if (van.suburb() < 0) {
            throw new IllegalArgumentException("no suburb: " + text);
        }
        return van;
    }
}
