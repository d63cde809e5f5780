import java.lang.reflect.Constructor;
import java.lang.reflect.Field;
import java.lang.reflect.Member;
import java.lang.reflect.Method;
import java.lang.reflect.Modifier;
import java.util.Arrays;
import java.util.Set;
import java.util.TreeSet;

/** The public face, and the rule that nothing else is to be seen from outside. */
public final class FaceTest {
    private static final Check CHECK = new Check("FaceTest");
    private static final String[] FACE = {
        "int topic(int,int)", "int piece(int,int,int,int,int)", "int drop()", "int pace(int)", "int know(int)",
        "int count(int)", "int with(int)", "int minutes(int)", "int can(int)", "int done(int)", "int way(int)",
        "int step(int)", "int most(int)", "int reach()", "int gaps()", "int shortens(int,int)",
        "boolean week(int,int)", "int lay(int)", "int laid(int)", "int answer(int,boolean)", "int ask()",
        "int states()", "int question()", "int worst()", "int settle()", "int state(int)",
    };

    public static void main(String[] args) {
        same("methods", methods(), new TreeSet<>(Arrays.asList(FACE)));
        same("constants", constants(), Set.of("NONE"));
        for (Constructor<?> made : WhatToRead.class.getDeclaredConstructors()) {
            CHECK.same("the public constructor", isPublic(made) && made.getParameterCount() == 0, true);
        }
        CHECK.same("the class is final", Modifier.isFinal(WhatToRead.class.getModifiers()), true);
        CHECK.same("no class above it", WhatToRead.class.getSuperclass() == Object.class, true);
        hidden(WhatToRead.class.getDeclaredMethods());
        hidden(WhatToRead.class.getDeclaredFields());
        for (Class<?> inside : WhatToRead.class.getDeclaredClasses()) {
            int modifiers = inside.getModifiers();
            boolean fits = Modifier.isStatic(modifiers) && !Modifier.isPublic(modifiers) && !Modifier.isProtected(modifiers);
            CHECK.same("inside: " + inside.getSimpleName(), fits, true);
        }
        stateThrows();
        CHECK.end();
    }

    private static void same(String what, Set<String> got, Set<String> due) {
        CHECK.same(what + " " + got, got.equals(due), true);
    }

    private static boolean isPublic(Member member) {
        return Modifier.isPublic(member.getModifiers());
    }

    private static Set<String> methods() {
        Set<String> all = new TreeSet<>();
        for (Method method : WhatToRead.class.getDeclaredMethods()) {
            if (isPublic(method)) {
                StringBuilder text = new StringBuilder();
                for (Class<?> type : method.getParameterTypes()) {
                    text.append(text.length() == 0 ? "" : ",").append(type.getSimpleName());
                }
                all.add(method.getReturnType().getSimpleName() + " " + method.getName() + "(" + text + ")");
            }
        }
        return all;
    }

    private static Set<String> constants() {
        Set<String> all = new TreeSet<>();
        for (Field field : WhatToRead.class.getDeclaredFields()) {
            if (isPublic(field) && field.getType() == int.class && Modifier.isStatic(field.getModifiers())) {
                all.add(field.getName());
            }
        }
        return all;
    }

    private static void hidden(Member[] members) {
        for (Member member : members) {
            boolean seen = !isPublic(member) && !Modifier.isPrivate(member.getModifiers());
            CHECK.same(member.getName() + " is seen", seen && !member.isSynthetic(), false);
        }
    }

    private static void stateThrows() {
        try {
            Class<?>[] told = WhatToRead.class.getMethod("state", int.class).getExceptionTypes();
            CHECK.same("state tells its exception", told.length == 1 && told[0] == java.util.NoSuchElementException.class, true);
        } catch (NoSuchMethodException e) {
            CHECK.same("state(int)", false, true);
        }
    }
}
