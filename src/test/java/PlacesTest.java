/** Promises 22 to 25: places, loops, arrivals, delays and totals. */
public final class PlacesTest {
    private static final String TWO = "sink(0, 0) = 0; sink(4, 2) = 1; ";

    public static void main(String[] args) {
        places();
        placesAlongU();
        loops();
        deepPlaces();
        arrivals();
        delays();
        totals();
        Script.finish();
    }

    private static void places() {
        // The region of 8 has U = 3 and V from -1 to 3.
        Script.check("promise 22", TWO + """
            place(0, 0) = -3; place(2, 0) = -2; place(0, 3) = -2; place(0, -1) = -2; told(0) = 3; told(1) = 1;
            joins(0, 1) = 8; place(8, 0) = 3u; place(8, 1) = 0; place(8, 2) = -1; place(0, 0) = 0; place(0, 1) = 0;
            place(1, 0) = 6u; place(1, 1) = 2u; place(0, 2) = 0; place(1, 2) = 0;
            source(0, 10) = 10u; place(8, 0) = 3u; place(8, 1) = -1u; place(0, 2) = 0; place(1, 2) = 0;
            source(10, 0) = 20u; place(8, 1) = 3u; back() = 4; place(8, 1) = -1u;
            place(8, 3) = -2; place(9, 0) = -2; place(15, 0) = -2; place(-1, 2) = -2; told(0) = 7; told(1) = 1;
            cuts(0) = 8; place(0, 0) = -3; place(8, 0) = -2; told(1) = 2
            """);
        Script.check("promise 22, no sink and one sink", """
            place(0, 0) = -2; sink(0, 63) = 0; place(0, 0) = 63u; place(0, 1) = -63u; place(0, 2) = -1; told(0) = 1;
            told(1) = 0
            """);
    }

    private static void placesAlongU() {
        // The region of 8 has U from 1 to 5 and V = 1.
        Script.check("promise 22, along U", """
            sink(0, 2) = 0; sink(4, 0) = 1; joins(0, 1) = 8; place(8, 0) = 1u; place(8, 1) = 1u; total(1) = 1u;
            source(10, 10) = 20u; place(8, 0) = 5u; place(8, 1) = 1u; total(1) = 15u; source(3, 0) = 17u;
            place(8, 0) = 3u; place(8, 1) = 1u; total(1) = 2u; sink(9, 9) = 2; joins(8, 2) = 9; place(9, 0) = 10u;
            place(9, 1) = 3u; place(8, 0) = 5u; place(8, 1) = 1u; place(8, 2) = 0; place(2, 2) = 0
            """);
    }

    private static void loops() {
        Script.check("promise 22, a loop", TWO + """
            joins(0, 1) = 8; sets(1, 0, 20) = 0; place(8, 0) = 6u; place(8, 1) = 2u; place(0, 2) = 14u; place(1, 2) = 0;
            total(2) = 14u; total(3) = 0; total(4) = 1; skew(10) = 0; place(0, 2) = 4u; total(2) = 4u; total(3) = 10u;
            total(4) = 1; sets(1, 0, 0) = 20; total(2) = 0; total(4) = 0
            """);
    }

    private static void deepPlaces() {
        // 9 has U = 5 and V from -3 to 5; 8 follows it from (5, 0) to U = 3 and V = 0, and from (5, -3) to V = -1.
        Script.check("promise 22, a joint below a joint", TWO + """
            sink(6, 4) = 2; joins(0, 1) = 8; joins(8, 2) = 9; place(9, 0) = 5u; place(9, 1) = 0; place(8, 0) = 3u;
            place(8, 1) = 0; place(8, 2) = 0; place(2, 2) = 0; total(1) = 5u; source(0, 20) = 20u; place(9, 1) = -3u;
            place(8, 1) = -1u; place(8, 2) = 0; place(2, 0) = 10u; place(2, 1) = 2u; place(2, 2) = 0; total(1) = 17u
            """);
    }

    private static void arrivals() {
        Script.check("promise 23", TWO + """
            arrival(0) = -3; arrival(2) = -2; joins(0, 1) = 8; arrival(0) = 6u; arrival(1) = 6u; sets(1, 0, 20) = 0;
            skew(10) = 0; arrival(0) = 16u; arrival(1) = 26u; source(10, 10) = 20u; arrival(0) = 24u;
            arrival(-1) = -2; arrival(8) = -2; arrival(2) = -2; told(0) = 4; told(1) = 1; sink(1, 1) = 2;
            arrival(0) = -3; arrival(3) = -2; told(1) = 2
            """);
        Script.check("promise 23, one sink", "sink(5, 2) = 0; arrival(0) = 7u; sets(0, 0, 9) = 0; arrival(0) = 16u; arrival(1) = -2");
        // 2 has the wire 5; 0 has 3, and 2 more of the joint above it.
        Script.check("promise 23, two levels", TWO + """
            sink(6, 4) = 2; joins(0, 1) = 8; joins(8, 2) = 9; arrival(0) = 10u; arrival(1) = 10u; arrival(2) = 10u
            """);
    }

    private static void delays() {
        // 10 * (10 + 2 * 1) for the wire of 0, and 6 * (6 + 2 * 12) for the trunk.
        Script.check("promise 24", TWO + """
            slow(0) = -3; joins(0, 1) = 8; sets(1, 0, 20) = 0; skew(10) = 0; slow(0) = 300uu; slow(1) = 180uu;
            sets(1, 1, 9) = 1; slow(0) = 396uu; slow(1) = 276uu; slow(2) = -2; slow(-1) = -2; slow(8) = -2;
            told(0) = 3; told(1) = 1; cuts(0) = 8; slow(1) = -3; slow(2) = -2; told(1) = 2
            """);
        Script.check("promise 24, one sink", "slow(0) = -2; sink(5, 2) = 0; slow(0) = 63uu; sets(0, 1, 3) = 1; slow(0) = 91uu");
        // 0: 3 * (3 + 2), then 2 * (2 + 2 * (6 + 2)), then the trunk 5 * (5 + 2 * (13 + 3)).
        Script.check("promise 24, two levels", TWO + """
            sink(6, 4) = 2; joins(0, 1) = 8; joins(8, 2) = 9; slow(0) = 236uu; slow(1) = 236uu; slow(2) = 220uu
            """);
    }

    private static void totals() {
        Script.check("promise 25", """
            total(0) = 0; total(1) = -1; total(2) = -1; total(3) = -1; total(4) = -1; total(5) = -2; total(-1) = -2;
            told(0) = 2; sink(0, 0) = 0; total(0) = 0; total(1) = 0; total(2) = 0; total(3) = 0; total(4) = 0;
            sink(4, 2) = 1; total(1) = -1; total(4) = -1; joins(0, 1) = 8; total(0) = 6u; total(1) = 3u; total(2) = 0;
            sink(20, 20) = 2; sink(24, 20) = 3; joins(2, 3) = 9; total(0) = 10u; total(2) = -1; told(1) = 0; told(0) = 2
            """);
        // One sink with an offset arrives at one time only.
        Script.check("promise 25, one late sink", "sink(3, 0) = 0; sets(0, 0, 50) = 0; total(3) = 0; total(1) = 3u");
        // 1 and 2 want 0 to wait: the loops are 30 - 2 for 0, and 20 - 2 for the joint.
        Script.check("promise 25, two loops", """
            sink(0, 0) = 0; sink(2, 0) = 1; sink(4, 0) = 2; sets(1, 0, 30) = 0; sets(2, 0, 50) = 0; joins(0, 1) = 8;
            joins(8, 2) = 9; total(0) = 50u; total(2) = 46u; total(4) = 2; total(3) = 0; total(1) = 4u
            """);
    }
}
