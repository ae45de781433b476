/** Each pair of labels: whether one flows to the other, and whether a clearance is enough for an area. */
public final class LabelsTest {
    private static final int LABELS = 512;
    private static final int CALLS = 500;

    private static int wrong = 0;

    public static void main(String[] args) {
        for (int a = 0; a < LABELS; a++) {
            compareFlows(a);
            compareLogins(a);
        }
        System.out.println(2 * LABELS * LABELS + " pairs of labels, " + wrong + " wrong");
        System.exit(wrong == 0 ? 0 : 1);
    }

    private static void compareFlows(int a) {
        LabelVault vault = null;
        for (int b = 0; b < LABELS; b++) {
            vault = b % CALLS == 0 ? new LabelVault() : vault;
            boolean due = secrecyLevel(a) <= secrecyLevel(b) && isAmong(secrecyCategories(a), secrecyCategories(b))
                    && integrityLevel(b) <= integrityLevel(a)
                    && isAmong(integrityCategories(b), integrityCategories(a));
            compare("flows(" + a + ", " + b + ")", due, vault.flows(a, b));
        }
    }

    private static void compareLogins(int label) {
        LabelVault vault = null;
        for (int clearance = 0; clearance < LABELS; clearance++) {
            if (clearance % (CALLS / 4) == 0) {
                vault = new LabelVault();
                vault.area(label);
            }
            boolean due = secrecyLevel(label) <= secrecyLevel(clearance)
                    && integrityLevel(label) <= integrityLevel(clearance)
                    && isAmong(secrecyCategories(label), secrecyCategories(clearance))
                    && isAmong(integrityCategories(label), integrityCategories(clearance));
            vault.clear(3, clearance);
            compare("login to " + label + " with " + clearance, due, canLogin(vault));
        }
    }

    private static boolean canLogin(LabelVault vault) {
        try {
            vault.logout(vault.login(3, 0));
            return true;
        } catch (IllegalStateException e) {
            return false;
        }
    }

    private static int secrecyLevel(int label) {
        return label % 4;
    }

    private static int secrecyCategories(int label) {
        return label / 4 % 8;
    }

    private static int integrityLevel(int label) {
        return label / 32 % 4;
    }

    private static int integrityCategories(int label) {
        return label / 128;
    }

    private static boolean isAmong(int some, int all) {
        return (some | all) == all;
    }

    private static void compare(String call, boolean due, boolean got) {
        if (due != got) {
            wrong++;
            System.out.println(call + " is " + got + ", due is " + due);
        }
    }
}
