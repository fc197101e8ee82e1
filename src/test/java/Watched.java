/** Runs the main method of the class named, and ends with exit code 1 if it does not end in time. */
public final class Watched {
    private static final int SECONDS = 120;

    public static void main(String[] args) throws Exception {
        Thread watch = new Thread(() -> {
            try {
                Thread.sleep(SECONDS * 1000L);
            } catch (InterruptedException e) {
                return;
            }
            System.out.println(args[0] + " did not end within " + SECONDS + " seconds");
            System.out.flush();
            Runtime.getRuntime().halt(1);
        });
        watch.setDaemon(true);
        watch.start();
        Class.forName(args[0]).getMethod("main", String[].class).invoke(null, (Object) new String[0]);
    }
}
