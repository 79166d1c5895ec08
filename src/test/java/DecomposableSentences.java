/** The sentences on decomposable forms, and those of the promises 24 to 27. */
final class DecomposableSentences {
    private static final int NONE = Edge.NONE;
    private static final int LARGEST = Edge.LARGEST;

    private DecomposableSentences() {
    }

    static void tell() {
        Sentences.under(24, "Decomposable forms")
            .holds("A form a of a grade g is decomposable if", DecomposableSentences::asTold)
            .holds("(Forms of the grade 0 are decomposable.)", DecomposableSentences::gradeZero)
            .holds("The lead of a form that is not 0 is the blade with the lowest code", DecomposableSentences::leads)
            .holds("The factors of a decomposable form a of a grade g, 1 or more", DecomposableSentences::factors)
            .holds("(So the wedge of the factors, in this order, is a", DecomposableSentences::wedgeOfFactors)
            .holds("The annihilator of a form are all forms v", DecomposableSentences::annihilators)
            .holds("It is told by a basis: a row of vectors with n integers each", DecomposableSentences::echelons)
            .holds("It is told only for forms all of whose coefficients are from -60 to 60.", DecomposableSentences::told);
        Sentences.under(24, "Promise 24: decomposable")
            .holds("Tells whether a form is decomposable.", DecomposableSentences::tellsWhether)
            .holds("- `slot`: 0 to 7", () -> Edge.slots(24, "decomposable(s, 0)", BladeDesk::new,
                (desk, slot) -> desk.decomposable(slot, 0)))
            .holds("- `way`: 0: as told; 1: whether its annihilator", DecomposableSentences::ways)
            .holds("Returns 1 if it is, otherwise 0; NONE if the form is of no grade", DecomposableSentences::noGrade)
            .holds("Throws `IndexOutOfBoundsException` if there is no such slot", () -> Edge.noSlots(24,
                "decomposable(s, 2)", BladeDesk::new, (desk, slot) -> desk.decomposable(slot, 2)))
            .holds("Throws `IllegalArgumentException` if way is not 0 or 1", () -> Edge.range(24, "decomposable(0, w)",
                BladeDesk::new, 0, 1, Check.ARGUMENT, (desk, way) -> desk.decomposable(0, way)));
        Sentences.under(25, "Promise 25: factor")
            .holds("Returns a number of a factor.", DecomposableSentences::numbersOfFactors)
            .holds("- `slot`: 0 to 7", () -> Edge.slots(25, "factor(s, 0, 0)", BladeDesk::new,
                (desk, slot) -> desk.factor(slot, 0, 0)))
            .holds("- `place`: the place of the factor, 0 to 4", DecomposableSentences::placesOfFactors)
            .holds("- `direction`: the direction", DecomposableSentences::directionsOfFactors)
            .holds("Returns the coefficient of the direction; NONE if the form is not", DecomposableSentences::noFactors)
            .holds("Throws `IndexOutOfBoundsException` if there is no such slot or direction",
                DecomposableSentences::noSuchFactor)
            .holds("Throws `IllegalArgumentException` if place is out of range", () -> place(25,
                (desk, place) -> desk.factor(0, place, 0)));
        Sentences.under(26, "Promise 26: annihilator")
            .holds("Returns the dimension of an annihilator.", DecomposableSentences::dimensions)
            .holds("- `slot`: 0 to 7", () -> Edge.slots(26, "annihilator(s)", BladeDesk::new, BladeDesk::annihilator))
            .holds("Returns how many vectors its basis has; NONE if it is not told.", DecomposableSentences::notTold)
            .holds("Throws `IndexOutOfBoundsException` if there is no such slot", () -> Edge.noSlots(26,
                "annihilator(s)", BladeDesk::new, BladeDesk::annihilator));
        Sentences.under(27, "Promise 27: basis")
            .holds("Returns a number of the basis of an annihilator.", DecomposableSentences::numbersOfBases)
            .holds("- `slot`: 0 to 7", () -> Edge.slots(27, "basis(s, 0, 0)", BladeDesk::new,
                (desk, slot) -> desk.basis(slot, 0, 0)))
            .holds("- `place`: the place of the vector, 0 to 4", DecomposableSentences::placesOfVectors)
            .holds("- `direction`: the direction", DecomposableSentences::directionsOfVectors)
            .holds("Returns the number; NONE if the annihilator is not told, or", DecomposableSentences::noVectors)
            .holds("Throws `IndexOutOfBoundsException` if there is no such slot or direction",
                DecomposableSentences::noSuchVector)
            .holds("Throws `IllegalArgumentException` if place is out of range", () -> place(27,
                (desk, place) -> desk.basis(0, place, 0)));
    }

    private static void decomposable(int n, String form, int way, int want) {
        Check.due(24, "decomposable(0, " + way + ") of " + form + " with n = " + n, want,
            () -> Edge.desk(n, form).decomposable(0, way));
    }

    /** All forms of the grades 1, n - 1 and n are decomposable; between them some are not. */
    private static void asTold() {
        for (int n = 2; n <= 5; n++) {
            for (int grade : new int[] {1, n - 1, n}) {
                BladeDesk desk = Edge.desk(n);
                for (int blade = 0; blade < 1 << n; blade++) {
                    desk.set(0, blade, LARGEST - 17 * blade * blade);
                }
                desk.part(0, grade, 0);
                Check.due(24, "a form of the grade " + grade + " with n = " + n, 1, () -> desk.decomposable(0, 0));
            }
        }
        decomposable(4, "e01+e23", 0, 0);
        decomposable(4, "e02+e13", 0, 0);
        decomposable(4, "e03+e12", 0, 0);
        decomposable(4, "e03-e12", 0, 0);
        decomposable(4, "e01+e02+e03", 0, 1);
        // The product of the first and the last, less that of the middle ones, and so on, must be 0.
        decomposable(4, "2e01+3e02+5e03+e12+e13-e23", 0, 1);
        decomposable(4, "2e01+3e02+5e03+e12+e13+e23", 0, 0);
        decomposable(5, "e12+e34", 0, 0);
        decomposable(5, "e12-e23", 0, 1);
        decomposable(5, "e012+e034", 0, 0);
        decomposable(5, "e014+e234", 0, 0);
        decomposable(5, "e012+e013+e014", 0, 1);
        BladeDesk large = new BladeDesk();
        large.set(0, 3, 65536);
        large.set(0, 12, 65536);
        Check.due(24, "a form whose wedges are 2^32 and 0", 0, () -> large.decomposable(0, 0));
    }

    private static void gradeZero() {
        for (int n = 2; n <= 5; n++) {
            decomposable(n, "1", 0, 1);
            decomposable(n, "-60", 0, 1);
            decomposable(n, "99999", 0, 1);
            decomposable(n, "0", 0, NONE);
        }
    }

    private static void lead(int n, String form, int lead, int coefficient) {
        BladeDesk desk = Edge.desk(n, form);
        Check.due(22, "form(0, 5) of " + form, lead, () -> desk.form(0, 5));
        Check.due(22, "form(0, 6) of " + form, coefficient, () -> desk.form(0, 6));
    }

    private static void leads() {
        lead(4, "0", NONE, NONE);
        lead(4, "-5+e0", 0, -5);
        lead(4, "e3-4e012", 7, -4);
        lead(4, "e2-4e01", 3, -4);
        lead(4, "-e0123", 15, -1);
        lead(5, "e4+e0123", 15, 1);
        lead(5, "-99999e01234", 31, -99999);
        lead(2, "e0-e0+2e1", 2, 2);
    }

    private static void factors(int n, String form, int[]... due) {
        BladeDesk desk = Edge.desk(n, form);
        for (int place = 0; place < 5; place++) {
            for (int k = 0; k < n; k++) {
                int p = place;
                int d = k;
                int want = place < due.length ? due[place][k] : NONE;
                Check.due(25, "factor(0, " + p + ", " + d + ") of " + form, want, () -> desk.factor(0, p, d));
            }
        }
    }

    private static void factors() {
        factors(2, "-7e1", new int[] {0, -7});
        factors(5, "3e0-99999e4", new int[] {3, 0, 0, 0, -99999});
        factors(3, "e01+2e02+3e12", new int[] {1, 0, -3}, new int[] {0, 1, 2});
        factors(3, "-e01+2e12", new int[] {-1, 0, -2}, new int[] {0, -1, 0});
        factors(4, "e012+2e013+3e023+4e123", new int[] {1, 0, 0, 4}, new int[] {0, 1, 0, -3}, new int[] {0, 0, 1, 2});
        factors(5, "2e1234", new int[] {0, 2, 0, 0, 0}, new int[] {0, 0, 2, 0, 0}, new int[] {0, 0, 0, 2, 0},
            new int[] {0, 0, 0, 0, 2});
        factors(5, "-3e01234", new int[] {-3, 0, 0, 0, 0}, new int[] {0, -3, 0, 0, 0}, new int[] {0, 0, -3, 0, 0},
            new int[] {0, 0, 0, -3, 0}, new int[] {0, 0, 0, 0, -3});
    }

    private static void wedgeOfFactors(int n, String form) {
        BladeDesk desk = Edge.desk(n, form, "1");
        int grade = desk.form(0, 1);
        int lead = desk.form(0, 6);
        for (int place = 0; place < grade; place++) {
            desk.scale(2, 0, 2);
            for (int k = 0; k < n; k++) {
                desk.set(2, 1 << k, desk.factor(0, place, k));
            }
            desk.wedge(1, 2, 1);
        }
        for (int i = 1; i < grade; i++) {
            desk.scale(0, lead, 0);
        }
        Check.due(25, "compare() of the wedge of the factors of " + form, 0, () -> desk.compare(0, 1));
    }

    private static void wedgeOfFactors() {
        wedgeOfFactors(2, "3e0-4e1");
        wedgeOfFactors(2, "-7e01");
        wedgeOfFactors(3, "-2e01+5e02-3e12");
        wedgeOfFactors(4, "e02+e03+e12+e13");
        wedgeOfFactors(4, "-2e01-3e02-5e03-e12-e13+e23");
        wedgeOfFactors(4, "-3e012+2e013-3e023+4e123");
        wedgeOfFactors(4, "-5e123");
        wedgeOfFactors(5, "e0-9e3+7e4");
        wedgeOfFactors(5, "-2e012-4e013+6e014");
        wedgeOfFactors(5, "-3e0123+2e0124-3e0134+4e0234+5e1234");
        wedgeOfFactors(5, "-4e01234");
    }

    private static void basis(int n, String form, int[]... due) {
        BladeDesk desk = Edge.desk(n, form);
        Check.due(26, "annihilator(0) of " + form + " with n = " + n, due.length, () -> desk.annihilator(0));
        for (int place = 0; place < 5; place++) {
            for (int k = 0; k < n; k++) {
                int p = place;
                int d = k;
                int want = place < due.length ? due[place][k] : NONE;
                Check.due(27, "basis(0, " + p + ", " + d + ") of " + form, want, () -> desk.basis(0, p, d));
            }
        }
    }

    /** All vectors for the form 0 and for the highest grade, none for the grade 0. */
    private static void annihilators() {
        for (int n = 2; n <= 5; n++) {
            int[][] all = new int[n][n];
            for (int k = 0; k < n; k++) {
                all[k][k] = 1;
            }
            basis(n, "0", all);
            basis(n, "-7" + Edge.name((1 << n) - 1), all);
            basis(n, "1");
            basis(n, "-60");
            basis(n, "1+" + Edge.name((1 << n) - 1));
            basis(n, "6e0+9e1", vector(n, 2, 3));
            basis(n, "6e0+9e1-" + Edge.name((1 << n) - 1), vector(n, 2, 3));
        }
        basis(4, "e01+e23");
        basis(4, "e0+e12");
        basis(4, "e0+e12+e03");
        basis(5, "e01+e23", new int[0][]);
        basis(5, "e014+e234", new int[] {0, 0, 0, 0, 1});
        basis(4, "e0-e02", vector(4, 1));
        basis(4, "e01+e123", vector(4, 0, 1));
        for (String form : new String[] {"e02+e03+e12+e13", "2e01+3e02+5e03+e12+e13-e23", "e012-e013", "e0+5e3"}) {
            annihilates(form);
        }
    }

    private static int[] vector(int n, int... first) {
        return java.util.Arrays.copyOf(first, n);
    }

    private static void annihilates(String form) {
        BladeDesk desk = Edge.desk(4, form);
        for (int place = 0; place < desk.annihilator(0); place++) {
            for (int k = 0; k < 4; k++) {
                desk.set(1, 1 << k, desk.basis(0, place, k));
            }
            Check.due(27, "the wedge of the vector " + place + " and " + form, 0, () -> desk.wedge(1, 0, 2));
        }
    }

    private static void echelons() {
        basis(3, "-4e0+6e2", new int[] {2, 0, -3});
        basis(3, "-e2", new int[] {0, 0, 1});
        basis(5, "60e0-60e4", new int[] {1, 0, 0, 0, -1});
        basis(5, "60e3-48e4", new int[] {0, 0, 0, 5, -4});
        basis(2, "59e0+60e1", new int[] {59, 60});
        basis(3, "e01+e02+e12", new int[] {1, 0, -1}, new int[] {0, 1, 1});
        basis(3, "6e01+10e02+15e12", new int[] {2, 0, -5}, new int[] {0, 3, 5});
        basis(3, "-e02", new int[] {1, 0, 0}, new int[] {0, 0, 1});
        basis(3, "4e02-6e12", new int[] {2, -3, 0}, new int[] {0, 0, 1});
        basis(4, "2e01+3e02+5e03+e12+e13-e23", new int[] {2, 0, -1, -1}, new int[] {0, 2, 3, 5});
        basis(4, "60e012+59e013+58e023+57e123", new int[] {20, 0, 0, 19}, new int[] {0, 30, 0, -29},
            new int[] {0, 0, 60, 59});
        basis(5, "60e0123+1e0124+e0134-e0234+e1234", new int[] {60, 0, 0, 0, -1}, new int[] {0, 60, 0, 0, -1},
            new int[] {0, 0, 60, 0, -1}, new int[] {0, 0, 0, 60, 1});
    }

    private static void told() {
        for (int n = 2; n <= 5; n++) {
            for (int blade = 0; blade < 1 << n; blade++) {
                BladeDesk desk = Edge.desk(n);
                for (int value : new int[] {60, -60, 61, -61, LARGEST, -LARGEST}) {
                    boolean isTold = Math.abs(value) <= 60;
                    desk.set(3, blade, value);
                    Check.due(26, "annihilator(3) with " + value + " at " + blade + " is told", isTold ? 1 : 0,
                        () -> desk.annihilator(3) == NONE ? 0 : 1);
                    Check.due(24, "decomposable(3, 1) with " + value + " at " + blade, isTold ? 1 : NONE,
                        () -> desk.decomposable(3, 1));
                    Check.due(24, "decomposable(3, 0) with " + value + " at " + blade, 1, () -> desk.decomposable(3, 0));
                }
                Check.due(27, "basis(3, 0, 0), not told", NONE, () -> desk.basis(3, 0, 0));
            }
        }
    }

    private static void tellsWhether() {
        for (int way = 0; way <= 1; way++) {
            decomposable(4, "e01-e02", way, 1);
            decomposable(4, "e01-e23", way, 0);
            decomposable(5, "e0123+e0124", way, 1);
            decomposable(5, "e012+e034", way, 0);
            decomposable(2, "e0+e1", way, 1);
        }
    }

    private static void ways() {
        decomposable(4, "60e01+60e23", 0, 0);
        decomposable(4, "60e01+60e23", 1, 0);
        decomposable(4, "61e01+60e23", 0, 0);
        decomposable(4, "61e01+60e23", 1, NONE);
        decomposable(4, "61e01", 0, 1);
        decomposable(4, "61e01", 1, NONE);
        decomposable(4, "60", 1, 1);
        decomposable(4, "e0123", 1, 1);
        decomposable(5, "e01+e23", 1, 0);
        decomposable(5, "e014+e234", 1, 0);
    }

    private static void noGrade() {
        for (int way = 0; way <= 1; way++) {
            for (int n = 2; n <= 5; n++) {
                decomposable(n, "0", way, NONE);
                decomposable(n, "1+e0", way, NONE);
                decomposable(n, "61+e01", way, NONE);
                decomposable(n, "e0-e01", way, NONE);
                decomposable(n, "e0-e01+e01", way, 1);
            }
        }
    }

    private static void numbersOfFactors() {
        BladeDesk desk = Edge.desk(5, "0", "4e2", "7e03-8e13");
        int[][] two = {{7, -8, 0, 0, 0}, {0, 0, 0, 7, 0}};
        for (int k = 0; k < 5; k++) {
            int d = k;
            Check.due(25, "factor(0, 0, " + d + ") of 0", NONE, () -> desk.factor(0, 0, d));
            Check.due(25, "factor(1, 0, " + d + ") of 4e2", d == 2 ? 4 : 0, () -> desk.factor(1, 0, d));
            Check.due(25, "factor(2, 0, " + d + ") of 7e03-8e13", two[0][d], () -> desk.factor(2, 0, d));
            Check.due(25, "factor(2, 1, " + d + ") of 7e03-8e13", two[1][d], () -> desk.factor(2, 1, d));
        }
        BladeDesk large = new BladeDesk();
        large.set(7, 15, -LARGEST);
        Check.due(25, "factor(7, 3, 3) of the least coefficient", -LARGEST, () -> large.factor(7, 3, 3));
    }

    private static void placesOfFactors() {
        place(25, (desk, place) -> desk.factor(0, place, 0));
        // As many factors as the grade, and NONE at the places beyond them.
        for (int grade = 1; grade <= 5; grade++) {
            BladeDesk desk = Edge.desk(5, Edge.name((1 << grade) - 1));
            for (int place = 0; place < 5; place++) {
                int p = place;
                Check.due(25, "factor(0, " + p + ", " + p + ") of the grade " + grade, p < grade ? 1 : NONE,
                    () -> desk.factor(0, p, p));
            }
        }
    }

    private static void place(int promise, Edge.Call body) {
        for (String form : new String[] {"0", "1", "61", "e01+e23", "e01", "61e01", "e0123"}) {
            Edge.range(promise, "place of " + form, () -> Edge.desk(4, form), 0, 4, Check.ARGUMENT, body);
        }
    }

    private static void directionsOfFactors() {
        for (int n = 2; n <= 5; n++) {
            int dimension = n;
            Edge.range(25, "factor(0, 0, k) with n = " + n, () -> Edge.desk(dimension, "e01"), 0, n - 1, Check.INDEX,
                (desk, k) -> desk.factor(0, 0, k));
        }
    }

    private static void noFactors() {
        factors(4, "0");
        factors(4, "5");
        factors(4, "61");
        factors(4, "1+e0");
        factors(4, "e01+e23");
        factors(5, "e012+e034");
        factors(4, "61e01", new int[] {61, 0, 0, 0}, new int[] {0, 61, 0, 0});
    }

    private static void noSuchFactor() {
        Edge.noSlots(25, "factor(s, 0, 0)", BladeDesk::new, (desk, slot) -> desk.factor(slot, 0, 0));
        Edge.noSlots(25, "factor(s, 5, 0)", BladeDesk::new, (desk, slot) -> desk.factor(slot, 5, 0));
        Edge.outside(25, "factor(0, 5, k)", BladeDesk::new, Check.INDEX, (desk, k) -> desk.factor(0, 5, k), -1, 4);
        Edge.outside(25, "factor(0, 0, k) with n = 2", () -> Edge.desk(2), Check.INDEX,
            (desk, k) -> desk.factor(0, 0, k), -1, 2, 3, 4);
    }

    private static void dimensions() {
        String[] forms = {"1", "e0", "e01", "e012", "e0123", "e01234"};
        for (int grade = 0; grade <= 5; grade++) {
            int want = grade;
            Check.due(26, "annihilator(0) of " + forms[grade], want, () -> Edge.desk(5, forms[want]).annihilator(0));
        }
        Check.due(26, "annihilator(0) of the form 0", 5, () -> Edge.desk(5).annihilator(0));
        Check.due(26, "annihilator(0) of e01+e23", 0, () -> Edge.desk(5, "e01+e23").annihilator(0));
        Check.due(26, "annihilator(0) of e0+e1234", 0, () -> Edge.desk(5, "e0+e1234").annihilator(0));
        Check.due(26, "annihilator(0) of e0+e0123", 1, () -> Edge.desk(5, "e0+e0123").annihilator(0));
    }

    private static void notTold() {
        for (String form : new String[] {"61", "-61", "61e0", "e0-61e01", "60-61e0123", "61e0123", "99999e12"}) {
            Check.due(26, "annihilator(0) of " + form, NONE, () -> Edge.desk(4, form).annihilator(0));
        }
        Check.due(26, "annihilator(0) of 60-60e0123", 0, () -> Edge.desk(4, "60-60e0123").annihilator(0));
        Check.due(26, "annihilator(0) of 60e0123", 4, () -> Edge.desk(4, "60e0123").annihilator(0));
    }

    private static void numbersOfBases() {
        BladeDesk desk = Edge.desk(5, "0", "4e2", "7e03-8e13");
        int[][] two = {{7, -8, 0, 0, 0}, {0, 0, 0, 1, 0}};
        for (int k = 0; k < 5; k++) {
            int d = k;
            Check.due(27, "basis(0, 4, " + d + ") of 0", d == 4 ? 1 : 0, () -> desk.basis(0, 4, d));
            Check.due(27, "basis(1, 0, " + d + ") of 4e2", d == 2 ? 1 : 0, () -> desk.basis(1, 0, d));
            Check.due(27, "basis(2, 0, " + d + ") of 7e03-8e13", two[0][d], () -> desk.basis(2, 0, d));
            Check.due(27, "basis(2, 1, " + d + ") of 7e03-8e13", two[1][d], () -> desk.basis(2, 1, d));
        }
    }

    private static void placesOfVectors() {
        place(27, (desk, place) -> desk.basis(0, place, 0));
        for (int grade = 0; grade <= 5; grade++) {
            BladeDesk desk = Edge.desk(5, grade == 0 ? "1" : Edge.name((1 << grade) - 1));
            int size = grade;
            for (int place = 0; place < 5; place++) {
                int p = place;
                Check.due(27, "basis(0, " + p + ", " + p + ") of the grade " + grade, p < size ? 1 : NONE,
                    () -> desk.basis(0, p, p));
            }
        }
    }

    private static void directionsOfVectors() {
        for (int n = 2; n <= 5; n++) {
            int dimension = n;
            Edge.range(27, "basis(0, 0, k) with n = " + n, () -> Edge.desk(dimension, "e01"), 0, n - 1, Check.INDEX,
                (desk, k) -> desk.basis(0, 0, k));
        }
    }

    private static void noVectors() {
        basis(4, "60");
        basis(4, "e0", vector(4, 1));
        for (String form : new String[] {"61e0", "-61", "e0+61e0123"}) {
            BladeDesk desk = Edge.desk(4, form);
            for (int place = 0; place < 5; place++) {
                int p = place;
                Check.due(27, "basis(0, " + p + ", 3) of " + form, NONE, () -> desk.basis(0, p, 3));
            }
        }
    }

    private static void noSuchVector() {
        Edge.noSlots(27, "basis(s, 0, 0)", BladeDesk::new, (desk, slot) -> desk.basis(slot, 0, 0));
        Edge.noSlots(27, "basis(s, 5, 0)", BladeDesk::new, (desk, slot) -> desk.basis(slot, 5, 0));
        Edge.outside(27, "basis(0, 5, k)", BladeDesk::new, Check.INDEX, (desk, k) -> desk.basis(0, 5, k), -1, 4);
        Edge.outside(27, "basis(0, 0, k) with n = 2", () -> Edge.desk(2), Check.INDEX,
            (desk, k) -> desk.basis(0, 0, k), -1, 2, 3, 4);
    }
}
