/** A first peal: a tower of three bells, who may miss, rounds, one undone, and a plan of naps. */
public final class Peal {
    private static final EachMayMissOne PEAL = new EachMayMissOne();

    private Peal() {
    }

    public static void main(String[] args) {
        tell("135");
        System.out.println("tower: " + PEAL.tower() + " bells, the tenor is " + PEAL.count(7));
        tell("x.1");
        System.out.println("method: " + PEAL.method() + " changes");
        tell("x.9");
        System.out.println("a method that is refused: " + PEAL.method());

        System.out.println("may ringer 2 miss: " + PEAL.may(1 << 2));
        System.out.println("may ringer 0 miss: " + PEAL.may(1 << 0));
        System.out.println("ringer 0 misses: " + PEAL.round(1 << 0) + ", row" + row());
        System.out.println("ringer 1 misses: " + PEAL.round(1 << 1) + ", row" + row());
        System.out.println("deaths: " + PEAL.count(3));
        System.out.println("undone, left to undo: " + PEAL.undo() + ", deaths: " + PEAL.count(3));

        tell("c;-;r5;!c");
        System.out.println("a night's acts done: " + PEAL.night() + ", row" + row());
        System.out.println("how tired ringer 2 is: " + PEAL.ringer(2, 1));
        System.out.println("rounds till all have napped: " + PEAL.naps(1, 12) + ", row" + row());
        System.out.println("a bell of none such: " + PEAL.beer(3));
    }

    /** Tells a text: four signs a call, the first in the highest byte; then what is too many is cut off. */
    private static void tell(String text) {
        for (int p = 0; p < text.length(); p += 4) {
            int four = 0;
            for (int i = p; i < p + 4; i++) {
                four = four << 8 | (i < text.length() ? text.charAt(i) : 0);
            }
            PEAL.sign(four);
        }
        PEAL.end(text.length());
    }

    /** The numbers of the row. */
    private static String row() {
        StringBuilder numbers = new StringBuilder();
        for (int i = 0; i < PEAL.count(12); i++) {
            numbers.append(' ').append(PEAL.row(i));
        }
        return numbers.toString();
    }
}
