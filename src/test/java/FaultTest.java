import java.util.Random;

/** The FAULT of texts that are valleys but for a byte or two, or break off. */
public final class FaultTest {
    private static final String BYTES = "fbcpk alringostey 0123456789;;!(()&|<=>slipX\u00ff\u0000";

    public static void main(String[] args) {
        Due due = new Due();
        Random random = new Random(11);
        for (int n = 0; n < 300; n++) {
            String text = spoilt(Texts.valley(random), random);
            int fault = Grammar.fault(text);
            due.is("valley '" + text + "'", Lands.valley(new ByLot(), text), fault < 0 ? 0 : -10 - fault);
        }
        due.end("FaultTest");
    }

    private static String spoilt(String text, Random random) {
        int place = random.nextInt(text.length());
        char other = BYTES.charAt(random.nextInt(BYTES.length()));
        switch (random.nextInt(4)) {
            case 0: return text.substring(0, place);
            case 1: return text.substring(0, place) + other + text.substring(place + 1);
            case 2: return text.substring(0, place) + text.substring(place + 1);
            default:
                String more = text.substring(0, place) + other + text.substring(place);
                return more.substring(0, Math.min(100, more.length()));
        }
    }
}
