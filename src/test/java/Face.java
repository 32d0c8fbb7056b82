/** The calls of the document's face, so that a test can make them on the class and on the model alike. */
interface Face {
    int cost(int place, int zero, int one);

    int tie(int tie, int i, int j, int u, int v);

    int cut(int tie);

    int least();

    int lower();

    int upper();

    int with(int place, int label);

    int apart(int i, int j);

    int energy(int labelling);
}
