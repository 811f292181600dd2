/** Promise 3, the limits of plans: records, fields, branches, types in one another; the last taken, the first not. */
public final class Promise03LimitsTest extends Edge {
    public static void main(String[] args) {
        run(Promise03LimitsTest.class);
    }

    private static Probe taken(String text) {
        Probe p = new Probe();
        p.plansDue(text, 1);
        return p;
    }

    private static void fault(String marked, int kind) {
        new Probe().plansFault(marked, kind);
    }

    private static String records(int many) {
        StringBuilder text = new StringBuilder();
        for (int k = 0; k < many; k++) {
            text.append("record ").append(letter(k)).append(" x int;");
        }
        return text.toString();
    }

    private static String fields(int many) {
        StringBuilder text = new StringBuilder("plan;record r ");
        for (int k = 0; k < many; k++) {
            text.append(k == 0 ? "" : ",").append(letter(k)).append(" int");
        }
        return text.toString();
    }

    static void noRecordIsNoPlan() {
        fault("plan;@", 1);
        fault("plan;@plan;record a x int;", 1);
        fault("plan;record a x int;plan;@", 1);
    }

    static void oneToSixRecords() {
        for (int many = 1; many <= 6; many++) {
            due("records", many, taken("plan;" + records(many)).reader.record(0, NONE, 0));
        }
    }

    static void aSeventhRecord() {
        fault("plan;" + records(6) + "@record g x int;", 4);
        fault("plan;" + records(6) + "@record", 4);
        fault("plan;" + records(6) + " \n@record a x int;", 4);
    }

    static void sixRecordsInEachOfSixPlans() {
        Probe p = new Probe();
        p.plansDue(("plan;" + records(6)).repeat(6), 6);
        for (int plan = 0; plan < 6; plan++) {
            due("records of " + plan, 6, p.reader.record(plan, NONE, 0));
        }
    }

    static void aSeventhRecordOfALaterPlan() {
        fault("plan;" + records(2) + "plan;" + records(6) + "@record g x int;", 4);
    }

    static void noFieldIsNoRecord() {
        fault("plan;record r@;", 1);
        fault("plan;record r @", 1);
    }

    static void oneToEightFields() {
        for (int many = 1; many <= 8; many++) {
            due("fields", many, taken(fields(many) + ";").reader.record(0, 0, 0));
        }
    }

    static void aNinthField() {
        fault(fields(8) + ",@i int;", 4);
        fault(fields(8) + ",@i", 4);
        fault(fields(8) + ", \n@z int;", 4);
    }

    static void behindTheEighthFieldACommaAsksForAName() {
        fault(fields(8) + ",@;", 1);
        fault(fields(8) + ",@int", 1);
        fault(fields(8) + ",@", 1);
    }

    static void eightFieldsInEachRecord() {
        Probe p = new Probe();
        StringBuilder text = new StringBuilder("plan;");
        for (int k = 0; k < 6; k++) {
            text.append(fields(8).replace("plan;record r", "record " + letter(k))).append(';');
        }
        p.plansDue(text.toString(), 1);
        for (int k = 0; k < 6; k++) {
            due("fields of " + k, 8, p.reader.record(0, k, 0));
            due("sort of the last of " + k, 2, p.reader.field(0, k, 7, 0));
        }
    }

    /** As many fields as a tape's bytes can tell, each asking for a record. */
    static void aFullTapeOfFields() {
        StringBuilder text = new StringBuilder();
        for (int plan = 0; plan < 4; plan++) {
            text.append("plan;");
            for (int record = 0; record < (plan < 3 ? 6 : 5); record++) {
                text.append("record ").append(letter(record)).append(' ');
                for (int field = 0; field < 8; field++) {
                    text.append(field == 0 ? "" : ",").append(letter(field)).append(' ').append(letter((record + field) % 5));
                }
                text.append(';');
            }
        }
        Probe p = new Probe();
        due("the text fits the tape", 1, text.length() <= 1000 && text.length() > 950 ? 1 : 0);
        p.plansDue(text.toString(), 4);
        for (int plan = 0; plan < 4; plan++) {
            for (int field = 0; field < 8; field++) {
                due("record of a field", (4 + field) % 5, p.reader.field(plan, 4, field, 5));
            }
        }
    }

    static void oneBranchIsTooFew() {
        fault("plan;record a x either int@;", 1);
        fault("plan;record a x either int @,y int;", 1);
        fault("plan;record a x either @;", 1);
        fault("plan;record a x either int or @;", 1);
    }

    static void twoToFourBranches() {
        String[] texts = {"int or text", "int or text or none", "int or text or none or flag"};
        for (int k = 0; k < texts.length; k++) {
            due("branches", k + 2, taken("plan;record a x either " + texts[k] + ";").reader.field(0, 0, 0, 4));
        }
    }

    static void aFifthBranch() {
        fault("plan;record a x either int or text or none or flag or @real;", 4);
        fault("plan;record a x either int or text or none or flag or @list int;", 4);
        fault("plan;record a x either int or text or none or flag or @a;", 4);
    }

    static void aFifthBranchThatBeginsNoType() {
        fault("plan;record a x either int or text or none or flag or @;", 1);
        fault("plan;record a x either int or text or none or flag or @yes;", 1);
    }

    static void aTypeWithinThreeOthers() {
        String[] inner = {"none", "flag", "int", "long", "real", "text", "a"};
        for (String type : inner) {
            taken("plan;record a x " + type + ";");
            taken("plan;record a x list " + type + ";");
            taken("plan;record a x list list " + type + ";");
            taken("plan;record a x list list list " + type + ";");
        }
    }

    static void aTypeWithinFourLists() {
        String[] inner = {"none", "flag", "int", "long", "real", "text", "a", "list int", "either int or text"};
        for (String type : inner) {
            fault("plan;record a x list list list list @" + type + ";", 4);
        }
    }

    static void anEitherCountsAsOneAroundItsBranches() {
        taken("plan;record a x either list list int or text;");
        taken("plan;record a x either text or list list int;");
        taken("plan;record a x list either list int or text;");
        taken("plan;record a x list list either int or text;");
        fault("plan;record a x either list list list @int or text;", 4);
        fault("plan;record a x either text or list list list @int;", 4);
        fault("plan;record a x list either list list @int or text;", 4);
        fault("plan;record a x list either text or list list @int;", 4);
        fault("plan;record a x list list either list @int or text;", 4);
        fault("plan;record a x list list list either @int or text;", 4);
    }

    static void behindTooManyTypesNoTypeIsAFormFault() {
        fault("plan;record a x list list list list @;", 1);
        fault("plan;record a x list list list list @yes;", 1);
    }

    static void behindTooManyTypesAByteThatBeginsNoTokenIsAFormFault() {
        String[] wrong = {"%", "abcdefghi", "\"a", "-", "1234567890123456789", "1.25"};
        for (String token : wrong) {
            fault("plan;record a x list list list list @" + token + ";", 1);
            fault("plan;record a x either int or text or none or flag or @" + token + ";", 1);
        }
    }

    static void aRecordsFieldsAreNotWithinTheTypeThatAsksForIt() {
        taken("plan;record a x list list list b;record b y list list list c;record c z list list list int;");
    }
}
