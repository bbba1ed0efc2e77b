import java.lang.reflect.InvocationTargetException;
import java.lang.reflect.Method;
import java.util.ArrayList;
import java.util.HashMap;
import java.util.List;
import java.util.Map;

/** A new object and the calls made on it, each told as it is written: "set(0, 0, MAX)". */
final class Run {
    /** "An object is used for at most 512 calls": a test that makes more would hold nothing. */
    static final int MOST_CALLS = 512;
    private static final Map<String, Method> METHODS = new HashMap<>();

    static {
        for (Method method : NextHouseUp.class.getMethods()) {
            METHODS.put(method.getName() + " " + method.getParameterCount(), method);
        }
    }

    private final NextHouseUp x = new NextHouseUp();
    private final List<String> made = new ArrayList<>();

    /** A new object on which these calls were made. */
    static Run of(String... calls) {
        return new Run().does(calls);
    }

    Run does(String... calls) {
        for (String call : calls) {
            asks(call);
        }
        return this;
    }

    long asks(String call) {
        String name = call.substring(0, call.indexOf('('));
        String inside = call.substring(name.length() + 1, call.length() - 1).trim();
        String[] told = inside.isEmpty() ? new String[0] : inside.split(",");
        Object[] numbers = new Object[told.length];
        for (int i = 0; i < told.length; i++) {
            numbers[i] = number(told[i].trim());
        }
        made.add(call);
        if (made.size() > MOST_CALLS) {
            throw new IllegalStateException("a test makes more calls than an object is used for");
        }
        Method method = METHODS.get(name + " " + told.length);
        if (method == null) {
            throw new IllegalArgumentException(call);
        }
        try {
            return ((Number) method.invoke(x, numbers)).longValue();
        } catch (IllegalAccessException | InvocationTargetException e) {
            throw new IllegalStateException(call + " threw behind " + made, e);
        }
    }

    private static Integer number(String told) {
        return told.equals("MIN") ? Integer.valueOf(Integer.MIN_VALUE)
            : told.equals("MAX") ? Integer.valueOf(Integer.MAX_VALUE) : Integer.valueOf(told);
    }

    Run due(String call, long want) {
        Due.due(call, asks(call), want);
        return this;
    }

    /** The bytes of a text come onto the tape. */
    Run feed(String text) {
        for (int i = 0; i < text.length(); i++) {
            asks("feed(" + (int) text.charAt(i) + ")");
        }
        return this;
    }

    /** A text is fed; text() answers as due. */
    Run text(String text, long want) {
        feed(text);
        Due.due("text() of " + text, asks("text()"), want);
        return this;
    }

    /** A sound text is fed, and is the rule. */
    Run rule(String text) {
        feed(text);
        long number = asks("text()");
        Due.due("text() of " + text + " is a text", number > 0);
        return does("force(" + number + ")");
    }

    /** A sheet becomes a row of a sort with these numbers. */
    Run fill(int sheet, int sort, int... numbers) {
        due("sheet(" + sheet + ", " + sort + ", " + numbers.length + ")", 1);
        for (int i = 0; i < numbers.length; i++) {
            due("cell(" + sheet + ", " + i + ", " + numbers[i] + ")", 1);
        }
        return this;
    }

    /** What is told of one of the people: kind, number, house as three digits. */
    Run dueOne(int one, int kind, int number, int house) {
        due("told(" + one + ", 4)", kind);
        due("told(" + one + ", 2)", number);
        return due("told(" + one + ", 5)", house);
    }

    /** What is told of a letter that changes by days. */
    Run dueLetter(int letter, int at, int tone, int read) {
        due("told(" + letter + ", 9)", at);
        due("told(" + letter + ", 3)", tone);
        return due("told(" + letter + ", 10)", read);
    }

    int calls() {
        return made.size();
    }
}
