/** Makes texts of MATTERS by a seed, the same ones each time. */
final class Texts {
    private long x;

    Texts(long seed) {
        x = seed * 2862933555777941757L + 3037000493L;
    }

    int draw(int below) {
        x = x * 6364136223846793005L + 1442695040888963407L;
        return (int) ((x >>> 33) % below);
    }

    private boolean odds(int inTen) {
        return draw(10) < inTen;
    }

    /** Numbers that add to 20, each as great as told at least. */
    private int[] shares(int many, int least) {
        int[] shares = new int[many];
        int rest = 20 - many * least;
        for (int i = 0; i < many; i++) {
            int some = i == many - 1 ? rest : draw(3) == 0 ? 0 : draw(rest + 1);
            shares[i] = least + some;
            rest -= some;
        }
        int i = draw(many);
        int kept = shares[0];
        shares[0] = shares[i];
        shares[i] = kept;
        return shares;
    }

    private String truth(int truths) {
        return "t" + (char) ('a' + draw(truths));
    }

    private String voter(int voters) {
        return "v" + (char) ('a' + draw(voters));
    }

    String matter(int truths, int voters, int mostSigns) {
        StringBuilder text = new StringBuilder();
        for (int i = 0; i < truths; i++) {
            text.append("truth t").append((char) ('a' + i)).append(" #;");
        }
        for (int share : shares(truths, 1)) {
            text.replace(text.indexOf("#"), text.indexOf("#") + 1, "" + share);
        }
        int[] signs = new int[voters];
        for (int v = 0; v < voters; v++) {
            signs[v] = mostSigns == 2 ? 2 : 2 + draw(2);
            text.append("voter v").append((char) ('a' + v)).append(" sees ").append(signs[v]);
            for (int t = 0; t < truths; t++) {
                for (int share : shares(signs[v], 0)) {
                    text.append(' ').append(share);
                }
            }
            text.append(";");
        }
        addOthers(text, truths, signs);
        return text.toString();
    }

    private void addOthers(StringBuilder text, int truths, int[] signs) {
        int voters = signs.length;
        for (int i = draw(4); i > 0; i--) {
            text.append("loss ").append(truth(truths)).append(' ').append(truth(truths));
            text.append(' ').append(draw(12)).append(";");
        }
        for (int i = draw(4); i > 0; i--) {
            text.append("loss ").append(voter(voters)).append(' ').append(truth(truths));
            text.append(' ').append(truth(truths)).append(' ').append(draw(12)).append(";");
        }
        for (int i = draw(3); i > 0; i--) {
            text.append("weight ").append(voter(voters)).append(' ').append(draw(5)).append(";");
        }
        for (int i = draw(4); i > 0; i--) {
            addWay(text, truths, signs);
        }
        if (odds(3)) {
            text.append("rule most chair ").append(voter(voters)).append(";");
        } else if (odds(5)) {
            text.append("rule need ").append(1 + draw(voters + 1)).append(' ').append(truth(truths));
            text.append(" else ").append(truth(truths)).append(";");
        } else if (odds(2)) {
            text.append("rule most;");
        }
    }

    private void addWay(StringBuilder text, int truths, int[] signs) {
        int v = draw(signs.length);
        text.append("way v").append((char) ('a' + v));
        switch (draw(4)) {
            case 0 -> text.append(" honest");
            case 1 -> text.append(" plain");
            case 2 -> text.append(" shy ").append(1 + draw(20));
            default -> {
                text.append(" set");
                for (int s = 0; s < signs[v]; s++) {
                    text.append(' ').append(draw(4) == 0 ? "none" : truth(truths));
                }
            }
        }
        text.append(";");
    }
}
