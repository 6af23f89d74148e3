/** What the tests of boundaries share. */
abstract class Edges extends Houses {
    /**
     * Each of these calls, made on a new house of the scene, throws, and whatever can be asked of the
     * house is answered as before.
     */
    static void refused(String exception, Inquiry.Scene scene, Inquiry.Call... calls) {
        String before = Inquiry.allOf(scene, null);
        for (Inquiry.Call call : calls) {
            due("throws." + exception, Inquiry.answerOf(scene.build(), call));
            due(before, Inquiry.allOf(scene, call));
        }
    }

    /** Each of these calls, made on a new house of the scene, gives this answer. */
    static void taken(Object want, Inquiry.Scene scene, Inquiry.Call... calls) {
        for (Inquiry.Call call : calls) {
            due(want, Inquiry.answerOf(scene.build(), call));
        }
    }

    /** Of several calls, made one after the other, the answer of the last one. */
    static Object last(Object... answers) {
        return answers[answers.length - 1];
    }
}
