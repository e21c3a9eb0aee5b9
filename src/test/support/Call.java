import java.util.Arrays;
import java.util.stream.Collectors;

// One call with its arguments, that can be made on the class and on the model; true counts as 1.
final class Call {
    private final String name;
    private final int[] args;

    Call(String name, int... args) {
        this.name = name;
        this.args = args.clone();
    }

    int on(AclInherit x) {
        return switch (name) {
            case "create" -> x.create(args[0], args[1]);
            case "remove" -> x.remove(args[0]);
            case "move" -> x.move(args[0], args[1]);
            case "parentOf" -> x.parentOf(args[0]);
            case "close" -> x.close(args[0], args[1]);
            case "member" -> x.member(args[0], args[1], args[2]);
            case "entry" -> x.entry(args[0], args[1], args[2], args[3]);
            case "drop" -> x.drop(args[0], args[1]);
            case "entries" -> x.entries(args[0]);
            case "rights" -> x.rights(args[0], args[1]);
            case "may" -> x.may(args[0], args[1], args[2]) ? 1 : 0;
            case "who" -> x.who(args[0], args[1]);
            case "count" -> x.count(args[0], args[1]);
            case "reach" -> x.reach(args[0]);
            case "stir" -> x.stir(args[0]);
            default -> throw new IllegalArgumentException(name);
        };
    }

    int on(Model m) {
        return switch (name) {
            case "create" -> m.create(args[0], args[1]);
            case "remove" -> m.remove(args[0]);
            case "move" -> m.move(args[0], args[1]);
            case "parentOf" -> m.parentOf(args[0]);
            case "close" -> m.close(args[0], args[1]);
            case "member" -> m.member(args[0], args[1], args[2]);
            case "entry" -> m.entry(args[0], args[1], args[2], args[3]);
            case "drop" -> m.drop(args[0], args[1]);
            case "entries" -> m.entries(args[0]);
            case "rights" -> m.rights(args[0], args[1]);
            case "may" -> m.may(args[0], args[1], args[2]);
            case "who" -> m.who(args[0], args[1]);
            case "count" -> m.count(args[0], args[1]);
            case "reach" -> m.reach(args[0]);
            case "stir" -> m.stir(args[0]);
            default -> throw new IllegalArgumentException(name);
        };
    }

    @Override
    public String toString() {
        return Arrays.stream(args).mapToObj(String::valueOf)
            .collect(Collectors.joining(", ", name + "(", ")"));
    }
}
