import java.util.LinkedHashMap;
import java.util.Map;

/** All that an object can be asked, good numbers and some that are not. */
final class Answers {
    private static final int GREATEST_ROUND = 13;

    private Answers() {
    }

    static void compare(String what, Map<String, Integer> got, Map<String, Integer> due) {
        got.forEach((question, answer) -> Check.due(what + question, answer, due.get(question)));
    }

    static Map<String, Integer> of(int events, Subject order) {
        Map<String, Integer> answers = new LinkedHashMap<>();
        answers.put("events()", order.ask().events());
        answers.put("settled()", order.ask().settled());
        answers.put("ordered()", order.ask().ordered());
        answers.put("digest()", order.ask().digest());
        for (int member = -1; member <= 4; member++) {
            answers.put("latest(" + member + ")", order.ask().latest(member));
        }
        for (int round = -1; round <= GREATEST_ROUND; round++) {
            answers.put("witnesses(" + round + ")", order.ask().witnesses(round));
        }
        for (int x = -1; x <= events; x++) {
            addOfEvent(answers, order, x);
            addOfPairs(answers, order, x, events);
        }
        return answers;
    }

    private static void addOfEvent(Map<String, Integer> answers, Subject order, int x) {
        String number = "(" + x + ")";
        answers.put("round" + number, order.ask().round(x));
        answers.put("witness" + number, order.ask().witness(x));
        answers.put("fame" + number, order.ask().fame(x));
        answers.put("decider" + number, order.ask().decider(x));
        answers.put("received" + number, order.ask().received(x));
        answers.put("finalTime" + number, order.ask().finalTime(x));
        answers.put("orderAt" + number, order.ask().orderAt(x));
        answers.put("placeOf" + number, order.ask().placeOf(x));
    }

    private static void addOfPairs(Map<String, Integer> answers, Subject order, int x, int events) {
        for (int y = -1; y <= events; y++) {
            String pair = "(" + x + ", " + y + ")";
            answers.put("under" + pair, order.ask().under(x, y));
            answers.put("wellUnder" + pair, order.ask().wellUnder(x, y));
        }
    }
}
