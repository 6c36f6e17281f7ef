import java.lang.reflect.Field;
import java.lang.reflect.Method;
import java.lang.reflect.Modifier;
import java.util.Arrays;
import java.util.Set;
import java.util.TreeSet;

/** The public face: the constants, the constructor and the methods of the document, and nothing beside them. */
public final class FaceTest {
    private static final String[] CONSTANTS = {
        "ANY_POLICY=0", "MAX_SUBTREES=4", "NO_VALUE=-2147483648", "NOT_VALIDATED=-1", "OK=0", "ERR_EMPTY=1",
        "ERR_VALIDITY=2", "ERR_ISSUER=3", "ERR_NAME=4", "ERR_POLICY=5", "ERR_CA=6", "ERR_PATH_LENGTH=7",
        "ERR_KEY_USAGE=8", "BASIC_CA=1", "BASIC_KEY_USAGE=2", "BASIC_KEY_CERT_SIGN=4", "INIT_EXPLICIT=1",
        "INIT_INHIBIT_MAPPING=2", "INIT_INHIBIT_ANY=4", "PERMITTED=0", "EXCLUDED=1", "F_ISSUER=0", "F_SUBJECT=1",
        "F_NOT_BEFORE=2", "F_NOT_AFTER=3", "F_BASIC=4", "F_PATH_LEN=5", "F_POLICIES=6", "F_REQUIRE_EXPLICIT=7",
        "F_INHIBIT_MAPPING=8", "F_INHIBIT_ANY=9", "F_PERMITTED_COUNT=10", "F_EXCLUDED_COUNT=11", "G_COUNT=0",
        "G_CAPACITY=1", "G_ANCHOR=2", "G_USER_POLICIES=3", "G_INIT_FLAGS=4", "G_STATUS=5"};
    private static final String[] METHODS = {
        "boolean setAnchor 1", "boolean setInitial 2", "int addCert 4", "boolean removeLast 0", "boolean setBasic 3",
        "boolean addPolicy 2", "boolean addMapping 3", "boolean setPolicyConstraints 4", "boolean addSubtree 3",
        "int validate 1", "int getFailIndex 0", "int getPolicies 0", "int getAuthorityPolicies 0", "int getField 2",
        "int getMappingTargets 2", "int getSubtree 3"};

    public static void main(String[] args) throws IllegalAccessException {
        Class<?> face = CertPathCheck.class;
        Due.same("modifiers", face.getModifiers(), Modifier.PUBLIC | Modifier.FINAL);
        Due.same("constructors", face.getDeclaredConstructors().length, 1);
        Due.same("public constructors", face.getConstructors().length, 1);
        Due.same("nested classes", face.getDeclaredClasses().length, 0);
        sameNames("constants", constants(face), CONSTANTS);
        sameNames("methods", methods(face), METHODS);
        Due.end();
    }

    private static void sameNames(String what, Set<String> got, String[] due) {
        Set<String> want = new TreeSet<>(Arrays.asList(due));
        Due.yes(what + ": there are " + got + ", due are " + want, got.equals(want));
    }

    private static Set<String> constants(Class<?> face) throws IllegalAccessException {
        int due = Modifier.PUBLIC | Modifier.STATIC | Modifier.FINAL;
        Set<String> found = new TreeSet<>();
        for (Field field : face.getDeclaredFields()) {
            if (!Modifier.isPrivate(field.getModifiers())) {
                Due.same(field.getName() + ", modifiers", field.getModifiers(), due);
                Due.yes(field.getName() + ", type", field.getType() == int.class);
                found.add(field.getName() + "=" + field.getInt(null));
            }
        }
        return found;
    }

    private static Set<String> methods(Class<?> face) {
        Set<String> found = new TreeSet<>();
        for (Method method : face.getDeclaredMethods()) {
            if (!Modifier.isPrivate(method.getModifiers())) {
                Due.same(method.getName() + ", modifiers", method.getModifiers(), Modifier.PUBLIC);
                for (Class<?> type : method.getParameterTypes()) {
                    Due.yes(method.getName() + ", parameter", type == int.class);
                }
                found.add(method.getReturnType() + " " + method.getName() + " " + method.getParameterCount());
            }
        }
        return found;
    }
}
